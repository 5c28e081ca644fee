/-! the methods' parts by their number -/
def am_m0 : aM := (⟨"", "", ""⟩, ⟨#[]⟩, 0, none, 0, 0, 0, 0, [])
def am_m (k : Nat) : aM := am_mt.getD k am_m0
def mY (k : Nat) : MethodName := (am_m k).1
def mB (k : Nat) : ByteArray := (am_m k).2.1
def mL (k : Nat) : Nat := (am_m k).2.2.1
def mR (k : Nat) : Option FieldType := (am_m k).2.2.2.1
def mN (k : Nat) : Nat := (am_m k).2.2.2.2.1
def mC (k : Nat) : Nat := (am_m k).2.2.2.2.2.1
def mS (k : Nat) : Nat := (am_m k).2.2.2.2.2.2.1
def mP (k : Nat) : Nat := (am_m k).2.2.2.2.2.2.2.1
def mT (k : Nat) : List aI := (am_m k).2.2.2.2.2.2.2.2
/-- the tables' words that hold from any warmed state on -/
def am_tbl : List Cond := lw_tbl.filter goodWord
def am_mw (k : Nat) : List Cond := Cond.code (mY k) (mB k) (mL k) (mR k) :: am_tbl
/-! the cells that a world says -/
def am_cv (base b t0 : Nat) : Value → Value
  | .ref i => .ref (base + i)
  | .retAddr 0 => .ref b
  | .retAddr _ => .ref t0
  | v => v
/-- which fields of a class hold references -/
def am_fk : Nat → List Bool
  | 0 => [true, false]
  | 1 => [true, false, true, true, true, false, false]
  | 2 => [false, true, true, true, true, true]
  | 3 => [false, false, true, true, true, true, true, true, true, true, true]
  | _ => [true, true, false, true, true, true]
def am_fl (f : Nat → Bool → Value) : Nat → List Bool → List Value
  | _, [] => []
  | k, r :: t => f k r :: am_fl f (k + 1) t
def am_fv (base : Nat) (w : aW) (i k : Nat) : Bool → Value
  | true => va_rf ((w.2.2.2 i k).map (base + ·))
  | false => .int (w.2.2.1 i k)
def am_cell (base : Nat) (ty : Nat → ClassId) (w : aW) (i : Nat) : va_E := match w.2.1 i with
  | (0, ci) => .inr (ci, am_fl (am_fv base w i) 0 (am_fk ci))
  | (t + 1, n) => match Nat.beq t 3 with
    | true => .inl (ty 3, n, .inr (.inr (.inr (.inr (fun j => (w.2.2.2 i j).map (base + ·))))))
    | false => .inl (ty t, n, .inl (w.2.2.1 i))
def am_ws (base : Nat) (ty : Nat → ClassId) (w : aW) : va_W := (List.range w.1).map (fun i => (base + i, am_cell base ty w i))
def am_tys (ty : Nat → ClassId) : List (ClassId × FieldType) := [(ty 0, .char), (ty 1, .int), (ty 2, .boolean), (ty 3, .object "FaceRounds$State")]
abbrev am_A (base : Nat) : Nat → Prop := fun q => base ≤ q
def am_En (D : va_G) (ty : Nat → ClassId) (base t0 : Nat) (U : State) (H : Heap) : Prop := va_K D vwCl (am_tys ty) U ∧ va_Z "FaceRounds" "SINES" "[I" (.ref t0) (am_A base) U H ∧ va_T .int t0 24 (fun j => .int (am_sine j)) (am_A base) U H ∧ (∀ w ∈ am_nest, va_Nw w U) ∧ va_AO "FaceRounds$State" U
/-- a method's end: what it returns, and the world then -/
def am_Q (D : va_G) (ty : Nat → ClassId) (base b t0 n : Nat) (Post : Option Value → aW → Prop) : Array Value → State → Outcome → State → Prop := fun _ st oc t =>
  (∃ (r : Option Value) (w' : aW), oc = .returned (r.map (am_cv base b t0)) ∧ Post r w' ∧ w'.1 = n ∧ va_P D vwCl (am_ws base ty w') t.heap) ∧ va_F (am_A base) st t
def am_rm (d k : Nat) : Room := { frames := d, cells := mC k, slots := mS k, locals := 40 * d }
/-- a call of method k, at most d frames deep, from the world w: it returns, and Post holds -/
def am_Call (d k : Nat) (av : List Value) (w : aW) (Post : Option Value → aW → Prop) : Prop :=
  ∀ (l : Launch) (D : va_G) (ty : Nat → ClassId) (base b t0 : Nat), Met l (mY k) (am_mw k) (am_rm d k)
    (va_Pc (av.map (am_cv base b t0)) (fun U => am_En D ty base t0 U U.heap ∧ va_P D vwCl (am_ws base ty w) U.heap ∧ U.heap.size = base + w.1))
    (am_Q D ty base b t0 (w.1 + mC k) Post) (mC k) (mS k) (am_A base)
def am_Ci (d k : Nat) (av : List Value) (w : aW) (K : Int32 → aW → Prop) : Prop := am_Call d k av w (fun r w' => match r with
  | some (.int v) => K v w'
  | _ => False)
def am_Cv (d k : Nat) (av : List Value) (w : aW) (K : aW → Prop) : Prop := am_Call d k av w (fun r w' => match r with
  | none => K w'
  | _ => False)
/-- the same of a method that reads the script -/
def am_CallX (L : Nat) (xs : Nat → Int32) (d k : Nat) (av : List Value) (w : aW) (Post : Option Value → aW → Prop) : Prop :=
  ∀ (l : Launch) (D : va_G) (ty : Nat → ClassId) (base b t0 : Nat), Met l (mY k) (am_mw k) (am_rm d k)
    (va_Pc (av.map (am_cv base b t0)) (fun U => (am_En D ty base t0 U U.heap ∧ va_X b L xs U U.heap ∧ b < base) ∧ va_P D vwCl (am_ws base ty w) U.heap ∧ U.heap.size = base + w.1))
    (am_Q D ty base b t0 (w.1 + mC k) Post) (mC k) (mS k) (am_A base)
def am_CXi (L : Nat) (xs : Nat → Int32) (d k : Nat) (av : List Value) (w : aW) (K : Int32 → aW → Prop) : Prop := am_CallX L xs d k av w (fun r w' => match r with
  | some (.int v) => K v w'
  | _ => False)
def am_cx (L : Nat) (xs : Nat → Int32) (d k : Nat) (av : List Value) (w : aW) (K : Option Value → aW → Prop) : Prop := match d with
  | 0 => False
  | d + 1 => am_CXi L xs d k av w (fun v w' => K (some (.int v)) w')
def am_cf (f d k : Nat) (av : List Value) (w : aW) (K : Option Value → aW → Prop) : Prop := match d with
  | 0 => False
  | d + 1 => match f with
    | 0 => am_Cv d k av w (fun w' => K none w')
    | _ => am_Ci d k av w (fun v w' => K (some (.int v)) w')
def am_cpa (w : aW) (q0 q1 : Nat) (f : Nat → Nat → Nat → Prop) : Prop := match Nat.blt q0 w.1, Nat.blt q1 w.1, w.2.1 q0, w.2.1 q1 with
  | true, true, (t0 + 1, n0), (t1 + 1, n1) => (match Nat.beq t0 t1 with
    | true => f t0 n0 n1
    | false => False)
  | _, _, _, _ => False
def am_cpf (t : Nat) (w : aW) (q0 : Nat) (sp n : Int32) (K : Prop) : Prop := match t with
  | 1 => K
  | 2 => (∀ i : Nat, i < n.toNatClampNeg → w.2.2.1 q0 (sp.toNatClampNeg + i) = 0 ∨ w.2.2.1 q0 (sp.toNatClampNeg + i) = 1) ∧ K
  | _ => False
/-- one step: d the frames left, sx the script, cap the cells and slots that this method may make, K what follows, R what is returned -/
def am_stp (d : Nat) (sx : Option (Nat × (Nat → Int32))) (cap : Nat × Nat) (x : aI) (lc : aL) (st : List Value) (w : aW) (u : Nat × Nat) (K : aK) (R : Option Value → aW → Prop) : Prop :=
  match x with
  | (pc, ins, _, a, b, _, f, v, l, sw) =>
  match ins with
  | .iconst _ => K (pc + 1) lc (.int v :: st) w u
  | .bipush _ => K (pc + 2) lc (.int v :: st) w u
  | .sipush _ => K (pc + 3) lc (.int v :: st) w u
  | .ldc _ => K (pc + 2) lc (.int v :: st) w u
  | .ldc_w _ => K (pc + 3) lc (.int v :: st) w u
  | .ldc2_w _ => K (pc + 3) lc (.long l :: st) w u
  | .iload_n k => am_gi lc k.val fun y => K (pc + 1) lc (.int y :: st) w u
  | .iload k => am_gi lc k fun y => K (pc + 2) lc (.int y :: st) w u
  | .lload_n k => am_gl lc k.val fun y => K (pc + 1) lc (.long y :: st) w u
  | .lload k => am_gl lc k fun y => K (pc + 2) lc (.long y :: st) w u
  | .aload_n k => am_ga lc k.val fun y => K (pc + 1) lc (y :: st) w u
  | .aload k => am_ga lc k fun y => K (pc + 2) lc (y :: st) w u
  | .istore_n k => am_i st fun y r => am_sv lc k.val (.int y) fun lc' => K (pc + 1) lc' r w u
  | .istore k => am_i st fun y r => am_sv lc k (.int y) fun lc' => K (pc + 2) lc' r w u
  | .lstore_n k => am_l st fun y r => am_sl lc k.val y fun lc' => K (pc + 1) lc' r w u
  | .lstore k => am_l st fun y r => am_sl lc k y fun lc' => K (pc + 2) lc' r w u
  | .astore_n k => am_a st fun y r => am_sv lc k.val y fun lc' => K (pc + 1) lc' r w u
  | .astore k => am_a st fun y r => am_sv lc k y fun lc' => K (pc + 2) lc' r w u
  | .iinc k _ => am_gi lc k fun y => am_sv lc k (.int (y + v)) fun lc' => K (pc + 3) lc' st w u
  | .iadd => am_ii st fun y z r => K (pc + 1) lc (.int (y + z) :: r) w u
  | .isub => am_ii st fun y z r => K (pc + 1) lc (.int (y - z) :: r) w u
  | .imul => am_ii st fun y z r => K (pc + 1) lc (.int (y * z) :: r) w u
  | .iand => am_ii st fun y z r => K (pc + 1) lc (.int (y &&& z) :: r) w u
  | .ior => am_ii st fun y z r => K (pc + 1) lc (.int (y ||| z) :: r) w u
  | .ixor => am_ii st fun y z r => K (pc + 1) lc (.int (y ^^^ z) :: r) w u
  | .ishl => am_ii st fun y z r => K (pc + 1) lc (.int (y <<< (z &&& 31)) :: r) w u
  | .ishr => am_ii st fun y z r => K (pc + 1) lc (.int (y >>> (z &&& 31)) :: r) w u
  | .iushr => am_ii st fun y z r => K (pc + 1) lc (.int (y.toUInt32 >>> (z.toUInt32 &&& Int32.toUInt32 31)).toInt32 :: r) w u
  | .idiv => am_ii st fun y z r => ¬ z = 0 ∧ K (pc + 1) lc (.int (y / z) :: r) w u
  | .irem => am_ii st fun y z r => ¬ z = 0 ∧ K (pc + 1) lc (.int (y - y / z * z) :: r) w u
  | .ineg => am_i st fun y r => K (pc + 1) lc (.int (-y) :: r) w u
  | .lmul => am_ll st fun y z r => K (pc + 1) lc (.long (y * z) :: r) w u
  | .ldiv => am_ll st fun y z r => ¬ z = 0 ∧ K (pc + 1) lc (.long (y / z) :: r) w u
  | .i2l => am_i st fun y r => K (pc + 1) lc (.long y.toInt64 :: r) w u
  | .l2i => am_l st fun y r => K (pc + 1) lc (.int y.toInt32 :: r) w u
  | .i2c => am_i st fun y r => K (pc + 1) lc (.int (y.toUInt32 % 65536).toInt32 :: r) w u
  | .dup => (match st with
    | y :: r => (match am_cat1 y with
      | true => K (pc + 1) lc (y :: y :: r) w u
      | false => False)
    | _ => False)
  | .dup2 => (match st with
    | y :: z :: r => (match am_cat1 y && am_cat1 z with
      | true => K (pc + 1) lc (y :: z :: y :: z :: r) w u
      | false => False)
    | _ => False)
  | .ifCond cc _ => am_i st fun y r => am_c2 cc y 0 (K a lc r w u) (K (pc + 3) lc r w u)
  | .if_icmp cc _ => am_ii st fun y z r => am_c2 cc y z (K a lc r w u) (K (pc + 3) lc r w u)
  | .goto _ => K a lc st w u
  | .tableswitch _ _ _ _ => am_i st fun y r => am_sw y (fun t => K t lc r w u) (K a lc r w u) sw
  | .lookupswitch _ _ => am_i st fun y r => am_sw y (fun t => K t lc r w u) (K a lc r w u) sw
  | .getfield _ => (match st with
    | .ref i :: r => am_ob w i a (match f with
      | 1 => (match w.2.2.2 i b with
        | some j => K (pc + 3) lc (.ref j :: r) w u
        | none => False)
      | _ => K (pc + 3) lc (.int (w.2.2.1 i b) :: r) w u)
    | _ => False)
  | .putfield _ => (match f, st with
    | 0, .int y :: .ref i :: r => am_ob w i a (K (pc + 3) lc r (am_wC w (am_u2 w.2.2.1 i b y)) u)
    | 1, .ref j :: .ref i :: r => am_ob w i a (K (pc + 3) lc r (am_wF w (am_uF w.2.2.2 i b (some j))) u)
    | 2, .int y :: .ref i :: r => am_ob w i a ((y = 0 ∨ y = 1) ∧ K (pc + 3) lc r (am_wC w (am_u2 w.2.2.1 i b y)) u)
    | _, _ => False)
  | .getstatic _ => K (pc + 3) lc (.retAddr 1 :: st) w u
  | .arraylength => (match st with
    | .ref i :: r => am_alen w i fun n => K (pc + 1) lc (.int (Int32.ofNat n) :: r) w u
    | .retAddr 0 :: r => (match sx with
      | some (L, _) => K (pc + 1) lc (.int (Int32.ofNat L) :: r) w u
      | none => False)
    | _ => False)
  | .iaload => (match st with
    | .int i :: .ref q :: r => am_ar w q 1 fun n => vp_in i n ∧ K (pc + 1) lc (.int (w.2.2.1 q i.toNatClampNeg) :: r) w u
    | .int i :: .retAddr 0 :: r => (match sx with
      | some (L, xs) => vp_in i L ∧ K (pc + 1) lc (.int (xs i.toNatClampNeg) :: r) w u
      | none => False)
    | .int i :: .retAddr 1 :: r => vp_in i 24 ∧ K (pc + 1) lc (.int (am_sine i.toNatClampNeg) :: r) w u
    | _ => False)
  | .caload => (match st with
    | .int i :: .ref q :: r => am_ar w q 0 fun n => vp_in i n ∧ K (pc + 1) lc (.int (w.2.2.1 q i.toNatClampNeg) :: r) w u
    | _ => False)
  | .baload => (match st with
    | .int i :: .ref q :: r => am_ar w q 2 fun n => vp_in i n ∧ K (pc + 1) lc (.int (w.2.2.1 q i.toNatClampNeg) :: r) w u
    | _ => False)
  | .aaload => (match st with
    | .int i :: .ref q :: r => am_ar w q 3 fun n => vp_in i n ∧ ∃ j, w.2.2.2 q i.toNatClampNeg = some j ∧ K (pc + 1) lc (.ref j :: r) w u
    | _ => False)
  | .iastore => (match st with
    | .int y :: .int i :: .ref q :: r => am_ar w q 1 fun n => vp_in i n ∧ K (pc + 1) lc r (am_wC w (am_u2 w.2.2.1 q i.toNatClampNeg y)) u
    | _ => False)
  | .castore => (match st with
    | .int y :: .int i :: .ref q :: r => am_ar w q 0 fun n => vp_in i n ∧ K (pc + 1) lc r (am_wC w (am_u2 w.2.2.1 q i.toNatClampNeg (vp_nar .char y))) u
    | _ => False)
  | .bastore => (match st with
    | .int y :: .int i :: .ref q :: r => am_ar w q 2 fun n => vp_in i n ∧ K (pc + 1) lc r (am_wC w (am_u2 w.2.2.1 q i.toNatClampNeg (vp_nar .boolean y))) u
    | _ => False)
  | .aastore => (match st with
    | .ref j :: .int i :: .ref q :: r => am_ar w q 3 fun n => vp_in i n ∧ am_ob w j 3 (K (pc + 1) lc r (am_wF w (am_uF w.2.2.2 q i.toNatClampNeg (some j))) u)
    | _ => False)
  | .new _ => am_room (u.1 + 1, u.2 + f) cap (K (pc + 3) lc (.ref w.1 :: st) (am_wN w (0, a)) (u.1 + 1, u.2 + f))
  | .newarray _ => am_i st fun y r => y = v ∧ am_room (u.1 + 1, u.2 + a) cap (K (pc + 2) lc (.ref w.1 :: r) (am_wN w (b + 1, a)) (u.1 + 1, u.2 + a))
  | .anewarray _ => am_i st fun y r => y = v ∧ am_room (u.1 + 1, u.2 + a) cap (K (pc + 3) lc (.ref w.1 :: r) (am_wN w (4, a)) (u.1 + 1, u.2 + a))
  | .invokevirtual _ => am_pop (mN a) st [] fun av r => (match r with
    | .ref i :: r => am_ob w i b (am_cs8 r (am_cf f d a (.ref i :: av) w fun y w' => K (pc + 3) lc (y.toList ++ r) w' u))
    | _ => False)
  | .invokestatic _ => (match b with
    | 2 => (match d, st with
      | _ + 1, .int n :: .int dp :: .ref q1 :: .int sp :: .ref q0 :: r => am_cpa w q0 q1 fun t n0 n1 => am_cs8 r (¬ sp < 0 ∧ ¬ dp < 0 ∧ ¬ n < 0 ∧ sp.toNatClampNeg + n.toNatClampNeg ≤ n0 ∧ dp.toNatClampNeg + n.toNatClampNeg ≤ n1 ∧ am_cpf t w q0 sp n (K (pc + 3) lc r (am_wC w (am_uR w.2.2.1 q1 (va_cpy (w.2.2.1 q0) (w.2.2.1 q1) sp.toNatClampNeg dp.toNatClampNeg n.toNatClampNeg))) u))
      | _, _ => False)
    | 3 => (match d, st with
      | _ + 1, .int z :: .int y :: r => am_cs8 r (K (pc + 3) lc (.int (if y < z then z else y) :: r) w u)
      | _, _ => False)
    | 4 => (match d, st with
      | _ + 1, .int y :: r => am_cs8 r (K (pc + 3) lc (.int (if 0 ≤ y then y else 0 - y) :: r) w u)
      | _, _ => False)
    | 5 => am_pop (mN a) st [] fun av r => am_cs8 r (am_room (u.1 + mC a, u.2 + mS a) cap (am_cf f d a av w fun y w' => K (pc + 3) lc (y.toList ++ r) w' (u.1 + mC a, u.2 + mS a)))
    | 6 => (match sx with
      | some (L, xs) => am_pop (mN a) st [] fun av r => am_cs8 r (am_cx L xs d a av w fun y w' => K (pc + 3) lc (y.toList ++ r) w' u)
      | none => False)
    | _ => am_pop (mN a) st [] fun av r => am_cs8 r (am_cf f d a av w fun y w' => K (pc + 3) lc (y.toList ++ r) w' u))
  | .invokespecial _ => (match b with
    | 2 => (match d, st with
      | _ + 1, .ref _ :: r => am_cs8 r (K (pc + 3) lc r w u)
      | _, _ => False)
    | _ => am_pop (mN a) st [] fun av r => (match r with
      | .ref i :: r => am_cs8 r (am_room (u.1 + mC a, u.2 + mS a) cap (am_cf 0 d a (.ref i :: av) w fun y w' => K (pc + 3) lc (y.toList ++ r) w' (u.1 + mC a, u.2 + mS a)))
      | _ => False))
  | .ireturn => (match st with
    | [.int y] => (match f with
      | 0 => R (some (.int y)) w
      | _ => (y = 0 ∨ y = 1) ∧ R (some (.int y)) w)
    | _ => False)
  | .return_ => (match st with
    | [] => R none w
    | _ => False)
  | _ => False

def am_al (f : Value → Value) : Nat → aL → List (Nat × Value)
  | _, [] => []
  | i, none :: t => am_al f (i + 1) t
  | i, some v :: t => (i, f v) :: am_al f (i + 1) t
/-- the frame of a running method k, in the depth d -/
def am_Fx (d k : Nat) (p : Program) (R : Room) (s : State) (m : MethodId) (args : Array Value) (meth : Method) (c : Code) : Prop :=
  p.tables.exec = Jvm.exec ∧ c.code = mB k ∧ c.maxLocals = mL k ∧ s.vm.findClass (mY k).cls = some m.cls ∧ (∀ w ∈ am_tbl, w.before args s = true) ∧ (d ≤ R.frames ∧ 40 * d ≤ R.locals ∧ R.cells = mC k ∧ R.slots = mS k) ∧ ((mY k).name = "<init>" → meth.name = "<init>")
def am_Sx (sx : Option (Nat × (Nat → Int32))) (base b : Nat) (s : State) : Prop := match sx with
  | some (L, xs) => va_X b L xs s s.heap ∧ b < s.heap.size ∧ b < base
  | none => True
/-- what a frame's return needs: the instruction, and that the value is of the returned type -/
def am_Ri (k pc : Nat) (r : Option Value) : Prop := match r with
  | none => decode (mB k) pc = .ok (.return_, 1) ∧ mR k = none
  | some (.int x) => decode (mB k) pc = .ok (.ireturn, 1) ∧ ∃ ty, mR k = some ty ∧ narrow ty (.int x) = .int x
  | _ => False
/-- method k, at pc, with these locals and this stack, in the world w: it comes to its end, and Post holds -/
def am_At (d k : Nat) (sx : Option (Nat × (Nat → Int32))) (Post : Option Value → aW → Prop) (pc : Nat) (lc : aL) (st : List Value) (w : aW) (u : Nat × Nat) : Prop :=
  ∀ (p : Program) (l : Launch) (e : Env) (R : Room) (s : State) (m : MethodId) (args : Array Value) (below : List Frame) (meth : Method) (c : Code) (D : va_G) (ty : Nat → ClassId) (base b t0 : Nat) (Q : State → Prop),
    am_Fx d k p R s m args meth c → am_En D ty base t0 s s.heap → am_Sx sx base b s → base ≤ s.heap.size →
    (∀ (r : Option Value) (w' : aW) (u' : Nat × Nat) (H : Heap) (locs : List Loc) (ls : Array Slot) (pc' : Nat), Post r w' → s.heap.size + u'.1 = base + w'.1 → u'.1 ≤ mC k → u'.2 ≤ mS k → va_P D vwCl (am_ws base ty w') H → va_S (am_A base) s.heap H locs → am_Ri k pc' r →
      W p l e R s m args below meth c H locs u'.1 u'.2 Q (F0 m pc' ls (r.map (am_cv base b t0)).toList)) →
    ∀ (H : Heap) (locs : List Loc) (ls : Array Slot), s.heap.size + u.1 = base + w.1 → u.1 ≤ mC k → u.2 ≤ mS k → va_P D vwCl (am_ws base ty w) H → va_S (am_A base) s.heap H locs → lc.length = mL k → lv_has ls (mL k) (am_al (am_cv base b t0) 0 lc) →
      W p l e R s m args below meth c H locs u.1 u.2 Q (F0 m pc ls (st.map (am_cv base b t0)))
