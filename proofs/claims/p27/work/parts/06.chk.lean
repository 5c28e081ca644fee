/-! what is checked of the rows, by program -/
def am_wd (c : Nat) (w : Cond) : Bool := decide (lw_tbl[c]? = some w) && goodWord w
theorem am_wd_ok {c : Nat} {w : Cond} (h : am_wd c w = true) : w ∈ am_tbl := by
  simp only [am_wd, Bool.and_eq_true, decide_eq_true_eq] at h
  exact List.mem_filter.mpr ⟨List.mem_of_getElem? h.1, h.2⟩
def am_in (w : Cond) : Bool := decide (w ∈ lw_tbl) && goodWord w
theorem am_in_ok {w : Cond} (h : am_in w = true) : w ∈ am_tbl := by
  simp only [am_in, Bool.and_eq_true, decide_eq_true_eq] at h
  exact List.mem_filter.mpr h
theorem am_tbl_good : ∀ w ∈ am_tbl, (w.onTables && w.keeps) = true ∨ ∃ ty, w = .arrayClass ty := fun w h => good_of_word (List.mem_filter.mp h).2
/-- a method that may be called; q: its number, the places of .initialized, .instanceMethod or .static, .selects -/
def am_okC (q : Nat × Nat × Nat × Nat) : Bool := am_wd q.2.1 (.initialized (mY q.1).cls) && decide ((mY q.1).cls ≠ "java/lang/invoke/MethodHandle") && decide ((mY q.1).cls ≠ "java/lang/invoke/VarHandle") &&
  decide ((parseMethodDescriptor (mY q.1).desc).map (fun d => d.parameters.length) = some (mN q.1)) && Nat.ble (mL q.1) 21 && Nat.blt q.1 173 && plainFor (mY q.1)
def am_okV (q : Nat × Nat × Nat × Nat) : Bool := am_okC q && am_wd q.2.2.1 (.instanceMethod (mY q.1)) && am_wd q.2.2.2 (.selects (mY q.1).cls (mY q.1) (mY q.1)) && Nat.beq (mC q.1) 0 && Nat.beq (mS q.1) 0
def am_okS (q : Nat × Nat × Nat × Nat) : Bool := am_okC q && am_wd q.2.2.1 (.static (mY q.1)) && Nat.beq (mC q.1) 0 && Nat.beq (mS q.1) 0
def am_okZ (q : Nat × Nat × Nat × Nat) : Bool := am_okC q && am_wd q.2.2.1 (.static (mY q.1))
def am_okI (q : Nat × Nat × Nat × Nat) : Bool := am_okC q && am_wd q.2.2.1 (.instanceMethod (mY q.1)) && decide ((mY q.1).name = "<init>") && decide (mR q.1 = none)
set_option maxRecDepth 100000 in
theorem am_codes : (List.range 173).map (fun a => lw_tbl[mP a]?) = (List.range 173).map (fun a => some (Cond.code (mY a) (mB a) (mL a) (mR a))) := rfl
def am_Vs : List (Nat × Nat × Nat × Nat) := [(1, 17, 190, 191), (2, 17, 528, 529), (3, 17, 195, 0), (14, 19, 224, 225), (15, 19, 229, 1), (16, 19, 278, 3), (17, 19, 286, 4), (18, 19, 281, 282), (19, 19, 456, 457), (20, 19, 452, 453), (21, 19, 321, 7), (22, 19, 474, 475), (23, 19, 316, 317), (24, 19, 412, 413), (25, 19, 305, 306), (26, 19, 508, 509), (27, 19, 495, 496), (28, 19, 500, 11), (29, 19, 505, 12), (31, 15, 198, 199), (32, 15, 209, 210), (33, 15, 218, 219), (34, 15, 253, 254), (35, 15, 244, 245), (36, 15, 382, 383), (37, 15, 387, 388), (38, 15, 404, 405), (39, 15, 416, 417), (40, 15, 257, 258), (41, 15, 249, 250), (42, 15, 235, 236), (43, 15, 240, 2), (44, 15, 302, 6), (45, 15, 297, 298), (46, 15, 331, 332), (47, 15, 335, 336), (48, 15, 339, 340), (49, 15, 348, 349), (51, 14, 185, 186), (52, 14, 205, 206), (53, 14, 369, 370), (55, 14, 391, 392), (56, 14, 395, 396), (57, 14, 400, 401), (58, 14, 408, 409), (59, 14, 420, 421), (60, 14, 424, 425), (61, 14, 428, 429), (64, 14, 524, 525), (67, 14, 435, 436), (68, 14, 214, 215), (69, 14, 442, 443), (70, 14, 448, 449), (71, 14, 516, 517), (72, 14, 491, 492), (73, 14, 327, 328), (74, 14, 512, 513), (81, 14, 291, 5), (82, 14, 344, 8), (83, 14, 461, 9), (84, 14, 471, 10)]
def am_Ss : List (Nat × Nat × Nat × Nat) := [(75, 14, 373, 0), (76, 14, 376, 0), (77, 14, 379, 0), (78, 14, 232, 0), (79, 14, 261, 0), (158, 22, 309, 0), (159, 21, 267, 0), (160, 21, 274, 0), (163, 16, 38, 0), (165, 13, 355, 0), (166, 13, 362, 0), (167, 13, 359, 0), (168, 13, 484, 0), (169, 13, 481, 0), (171, 13, 487, 0), (172, 13, 521, 0)]
def am_Zs : List (Nat × Nat × Nat × Nat) := [(170, 13, 432, 0)]
def am_Xs : List (Nat × Nat × Nat × Nat) := [(164, 13, 352, 0)]
def am_Is : List (Nat × Nat × Nat × Nat) := [(0, 17, 91, 0), (4, 18, 108, 0), (13, 19, 138, 0), (30, 15, 34, 0), (50, 14, 26, 0)]
set_option maxRecDepth 100000 in
theorem am_Vs_ok : am_Vs.all am_okV = true := by decide +kernel
set_option maxRecDepth 100000 in
theorem am_Ss_ok : am_Ss.all am_okS = true := by decide +kernel
set_option maxRecDepth 100000 in
theorem am_Zs_ok : am_Zs.all am_okZ = true := by decide +kernel
set_option maxRecDepth 100000 in
theorem am_Xs_ok : am_Xs.all am_okS = true := by decide +kernel
set_option maxRecDepth 100000 in
theorem am_Is_ok : am_Is.all am_okI = true := by decide +kernel
def am_has (l : List (Nat × Nat × Nat × Nat)) (a : Nat) : Bool := l.any (fun q => Nat.beq q.1 a)
def am_len : Instr → Nat → Nat
  | .bipush _, _ => 2 | .sipush _, _ => 3 | .ldc _, _ => 2 | .ldc_w _, _ => 3 | .ldc2_w _, _ => 3
  | .iload _, _ => 2 | .lload _, _ => 2 | .aload _, _ => 2 | .istore _, _ => 2 | .lstore _, _ => 2 | .astore _, _ => 2 | .iinc _ _, _ => 3
  | .ifCond _ _, _ => 3 | .if_icmp _ _, _ => 3 | .goto _, _ => 3 | .tableswitch _ _ _ _, n => n | .lookupswitch _ _, n => n
  | .getfield _, _ => 3 | .putfield _, _ => 3 | .getstatic _, _ => 3 | .new _, _ => 3 | .newarray _, _ => 2 | .anewarray _, _ => 3
  | .invokevirtual _, _ => 3 | .invokestatic _, _ => 3 | .invokespecial _, _ => 3
  | _, _ => 1
def am_tsw (pc : Nat) (lo : Int) (offs : Array Int) : Nat → List (Int32 × Nat) → Bool
  | _, [] => true
  | j, q :: t => decide (q.1.toInt = lo + j) && (match offs[j]? with
    | some o => decide ((pc : Int) + o = (q.2 : Int))
    | none => false) && am_tsw pc lo offs (j + 1) t
def am_aty (t : ArrayType) : Nat := match t with
  | .char => 0
  | .int => 1
  | .boolean => 2
  | _ => 9
def am_num (v : Int32) (a z : Nat) : Bool := decide (¬ v < 0) && decide (v.toNatClampNeg = a) && Nat.ble (a * z) 536870912
def am_cls (a : Nat) : vw_C := vwCl.getD a ("", fun _ => ("", "", "", false), 0)
def am_fin (k : Nat) (q : String × String × String × Bool) : Bool := !q.2.2.2 || (decide ((mY k).name = "<init>") && decide (q.1 = (mY k).cls))
def am_fty (f : Nat) (desc : String) : Bool := match f, parseFieldDescriptor desc with
  | 0, some .int => true
  | 1, some (.object _) => true
  | 1, some (.array _) => true
  | 2, some .boolean => true
  | _, _ => false
def am_ckf (k i a b c f : Nat) : Bool := Nat.blt a 5 && Nat.blt b (am_cls a).2.2 && am_wd c (.fieldLink (mY k).cls i ((am_cls a).2.1 b).1 ((am_cls a).2.1 b).2.1 ((am_cls a).2.1 b).2.2.1) && am_fty f ((am_cls a).2.1 b).2.2.1 && decide ((am_fk a)[b]? = some (Nat.beq f 1))
set_option maxRecDepth 100000 in
theorem am_mx : lw_tbl[479]? = some (Cond.code Lib.Math.max.name Lib.Math.max.code 2 (some .int)) := rfl
set_option maxRecDepth 100000 in
theorem am_ma : lw_tbl[325]? = some (Cond.code Lib.Math.abs.name Lib.Math.abs.code 1 (some .int)) := rfl
theorem am_mm : (am_wd 478 (.static Lib.Math.max.name) && am_wd 324 (.static Lib.Math.abs.name) && am_wd 21 (.initialized "java/lang/Math")) = true := by decide +kernel
def am_isC : Bool := am_wd 203 (.native arraycopyName) && am_wd 202 (.static arraycopyName) && am_wd 20 (.initialized "java/lang/System")
set_option maxRecDepth 100000 in
theorem am_oc : lw_tbl[30]? = some (Cond.code objectInit ⟨#[0xb1]⟩ 1 none) := rfl
def am_isO : Bool := am_wd 29 (.instanceMethod objectInit) && true
theorem am_isC_ok : am_isC = true := by decide +kernel
theorem am_isO_ok : am_isO = true := by decide +kernel
def am_ck3 (k : Nat) (x : aI) : Bool :=
  match x with
  | (pc, ins, _, a, b, c, f, v, l, sw) =>
  match ins with
  | .iconst n => decide (Int32.ofInt n = v)
  | .bipush n => decide ((Int8.ofInt n).toInt32 = v)
  | .sipush n => decide ((Int16.ofInt n).toInt32 = v)
  | .ldc i => am_wd c (.constant (mY k).cls i v)
  | .ldc_w i => am_wd c (.constant (mY k).cls i v)
  | .ldc2_w i => am_wd c (.constantLong (mY k).cls i l)
  | .istore_n j => Nat.blt j.val (mL k)
  | .istore j => Nat.blt j (mL k)
  | .astore_n j => Nat.blt j.val (mL k)
  | .astore j => Nat.blt j (mL k)
  | .lstore_n j => Nat.blt (j.val + 1) (mL k)
  | .lstore j => Nat.blt (j + 1) (mL k)
  | .iinc j n => Nat.blt j (mL k) && decide (Int32.ofInt n = v)
  | .ifCond _ off => decide ((pc : Int) + off = (a : Int))
  | .if_icmp _ off => decide ((pc : Int) + off = (a : Int))
  | .goto off => decide ((pc : Int) + off = (a : Int))
  | .tableswitch d lo hi offs => decide ((pc : Int) + d = (a : Int)) && decide (hi = lo + (sw.length : Int) - 1) && am_tsw pc lo offs 0 sw
  | .lookupswitch d ps => decide ((pc : Int) + d = (a : Int)) && (ps.toList.zip (ps.toList.drop 1)).all (fun q => decide (q.1.1 < q.2.1)) && decide (ps.toList.map (fun q => (q.1, (pc : Int) + q.2)) = sw.map (fun q => (q.1.toInt, (q.2 : Int))))
  | .getfield i => am_ckf k i a b c f
  | .putfield i => am_ckf k i a b c f && am_fin k ((am_cls a).2.1 b)
  | .getstatic i => am_wd c (.fieldLink (mY k).cls i "FaceRounds" "SINES" "[I")
  | .new i => Nat.blt a 5 && am_wd c (.classLink (mY k).cls i (am_cls a).1) && Nat.beq f (am_cls a).2.2 && am_wd v.toNatClampNeg (.instantiable (am_cls a).1 f) && am_wd b (.initialized (am_cls a).1)
  | .newarray t => am_wd c (.arrayClass (newarray.typeOf t)) && Nat.beq (am_aty t) b && Nat.blt b 3 && am_num v a (componentBytes (newarray.typeOf t))
  | .anewarray i => am_wd c (.classLink (mY k).cls i "FaceRounds$State") && Nat.beq b 3 && am_num v a 4
  | .invokevirtual i => am_has am_Vs a && am_wd c (.methodLink (mY k).cls i (mY a)) && Nat.blt b 5 && decide ((am_cls b).1 = (mY a).cls) && (match f with
    | 0 => decide (mR a = none)
    | _ => !decide (mR a = none))
  | .invokestatic i => (match b with
    | 2 => am_wd c (.methodLink (mY k).cls i arraycopyName) && am_isC
    | 3 => am_wd c (.methodLink (mY k).cls i Lib.Math.max.name)
    | 4 => am_wd c (.methodLink (mY k).cls i Lib.Math.abs.name)
    | 1 => am_has am_Ss a && decide (am_nest[c]? = some (.methodLinkNest (mY k).cls i (mY a) "FaceRounds"))
    | 5 => am_has am_Zs a && am_wd c (.methodLink (mY k).cls i (mY a))
    | 6 => am_has am_Xs a && am_wd c (.methodLink (mY k).cls i (mY a))
    | _ => am_has am_Ss a && am_wd c (.methodLink (mY k).cls i (mY a)))
  | .invokespecial i => (match b with
    | 2 => am_wd c (.methodLink (mY k).cls i objectInit) && am_isO
    | 1 => am_has am_Is a && decide (am_nest[c]? = some (.methodLinkNest (mY k).cls i (mY a) "FaceRounds"))
    | _ => am_has am_Is a && am_wd c (.methodLink (mY k).cls i (mY a)))
  | .ireturn => (match mR k with
    | some .int => true
    | some .boolean => Nat.beq f 1
    | _ => false)
  | .return_ => decide (mR k = none)
  | _ => true
def am_ck (k : Nat) (x : aI) : Bool := decide (decode (mB k) x.1 = .ok (x.2.1, x.2.2.1)) && Nat.beq x.2.2.1 (am_len x.2.1 x.2.2.1) && am_ck3 k x
theorem am_ck_ok {k : Nat} {x : aI} (h : am_ck k x = true) : decode (mB k) x.1 = .ok (x.2.1, am_len x.2.1 x.2.2.1) ∧ am_ck3 k x = true := by
  simp only [am_ck, Bool.and_eq_true, decide_eq_true_eq] at h
  obtain ⟨⟨h1, h2⟩, h3⟩ := h
  rw [Nat.eq_of_beq_eq_true h2] at h1
  exact ⟨h1, h3⟩
