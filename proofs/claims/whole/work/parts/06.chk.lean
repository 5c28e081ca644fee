/-! what is checked of the rows, by program -/
def am_wd (c : Nat) (w : Cond) : Bool := decide (lw_tbl[c]? = some w) && goodWord w
theorem am_wd_ok {c : Nat} {w : Cond} (h : am_wd c w = true) : w ∈ am_tbl := by
  simp only [am_wd, Bool.and_eq_true, decide_eq_true_eq] at h
  exact List.mem_filter.mpr ⟨List.mem_of_getElem? h.1, h.2⟩
def am_in (w : Cond) : Bool := decide (w ∈ lw_tbl) && goodWord w
theorem am_in_ok {w : Cond} (h : am_in w = true) : w ∈ am_tbl := by
  simp only [am_in, Bool.and_eq_true, decide_eq_true_eq] at h
  exact List.mem_filter.mpr h
theorem am_tbl_good : ∀ w ∈ am_tbl, (w.onTables && w.keeps) = true ∨ ∃ ty, w = .arrayClass ty := fun w h => good_of_word (List.mem_filter.mp h).2
/-- a method that may be called; q: its number, the places of .initialized, .instanceMethod or .static, .selects -/
def am_okC (q : Nat × Nat × Nat × Nat) : Bool := am_wd q.2.1 (.initialized (mY q.1).cls) && decide ((mY q.1).cls ≠ "java/lang/invoke/MethodHandle") && decide ((mY q.1).cls ≠ "java/lang/invoke/VarHandle") &&
  decide ((parseMethodDescriptor (mY q.1).desc).map (fun d => d.parameters.length) = some (mN q.1)) && Nat.ble (mL q.1) 21 && Nat.blt q.1 164 && plainFor (mY q.1)
def am_okV (q : Nat × Nat × Nat × Nat) : Bool := am_okC q && am_wd q.2.2.1 (.instanceMethod (mY q.1)) && am_wd q.2.2.2 (.selects (mY q.1).cls (mY q.1) (mY q.1)) && Nat.beq (mC q.1) 0 && Nat.beq (mS q.1) 0
def am_okS (q : Nat × Nat × Nat × Nat) : Bool := am_okC q && am_wd q.2.2.1 (.static (mY q.1)) && Nat.beq (mC q.1) 0 && Nat.beq (mS q.1) 0
def am_okI (q : Nat × Nat × Nat × Nat) : Bool := am_okC q && am_wd q.2.2.1 (.instanceMethod (mY q.1)) && decide ((mY q.1).name = "<init>") && decide (mR q.1 = none)
set_option maxRecDepth 100000 in
theorem am_codes : (List.range 164).map (fun a => lw_tbl[mP a]?) = (List.range 164).map (fun a => some (Cond.code (mY a) (mB a) (mL a) (mR a))) := rfl
def am_Vs : List (Nat × Nat × Nat × Nat) := [(1, 61, 240, 241), (2, 61, 470, 471), (3, 61, 245, 0), (5, 62, 308, 309), (6, 62, 313, 1), (7, 62, 317, 2), (8, 62, 325, 4), (9, 62, 333, 6), (10, 62, 337, 7), (11, 62, 321, 3), (12, 62, 329, 5), (14, 63, 386, 387), (15, 63, 391, 10), (16, 63, 420, 12), (17, 63, 428, 13), (18, 63, 423, 424), (19, 63, 525, 526), (20, 63, 521, 522), (21, 63, 436, 14), (22, 63, 543, 544), (23, 63, 507, 508), (24, 63, 431, 432), (25, 63, 496, 497), (26, 63, 554, 555), (27, 63, 562, 563), (28, 63, 567, 18), (29, 63, 572, 19), (31, 59, 248, 249), (32, 59, 259, 260), (33, 59, 268, 269), (34, 59, 291, 292), (35, 59, 295, 296), (36, 59, 287, 288), (37, 59, 300, 301), (38, 59, 378, 379), (39, 59, 442, 443), (40, 59, 350, 351), (41, 59, 404, 405), (42, 59, 395, 396), (43, 59, 400, 11), (44, 59, 371, 9), (45, 59, 365, 366), (46, 59, 580, 581), (47, 59, 584, 585), (48, 59, 588, 589), (49, 59, 597, 598), (51, 58, 235, 236), (52, 58, 255, 256), (53, 58, 264, 265), (54, 58, 304, 305), (55, 58, 345, 346), (56, 58, 359, 360), (57, 58, 374, 375), (58, 58, 382, 383), (59, 58, 446, 447), (60, 58, 450, 451), (61, 58, 454, 455), (62, 58, 458, 459), (63, 58, 462, 463), (64, 58, 466, 467), (65, 58, 474, 475), (66, 58, 479, 480), (67, 58, 483, 484), (68, 58, 488, 489), (69, 58, 511, 512), (70, 58, 517, 518), (71, 58, 550, 551), (72, 58, 558, 559), (73, 58, 576, 577), (74, 58, 601, 602), (80, 58, 342, 8), (81, 58, 493, 15), (82, 58, 593, 20), (83, 58, 530, 16), (84, 58, 540, 17), (89, 64, 662, 22), (90, 64, 677, 23), (92, 64, 651, 21), (93, 64, 834, 46), (94, 64, 838, 47), (95, 64, 797, 42), (101, 64, 690, 25), (102, 64, 707, 27), (103, 64, 775, 39), (104, 64, 727, 29), (105, 64, 759, 35), (106, 64, 755, 34), (107, 64, 782, 40), (108, 64, 771, 38), (109, 64, 870, 50), (110, 64, 767, 37), (111, 64, 886, 52), (112, 64, 786, 41), (113, 64, 763, 36), (114, 64, 751, 33), (115, 64, 874, 51), (116, 64, 645, 646), (117, 64, 657, 658), (118, 64, 686, 24), (119, 64, 699, 26), (120, 64, 672, 673), (121, 64, 702, 703), (122, 64, 723, 28), (123, 64, 718, 719), (124, 64, 735, 30), (125, 64, 739, 31), (126, 64, 730, 731), (127, 64, 747, 32), (128, 64, 742, 743), (129, 64, 792, 793), (130, 64, 800, 801), (131, 64, 804, 805), (132, 64, 808, 809), (133, 64, 812, 813), (134, 64, 825, 44), (135, 64, 829, 45), (136, 64, 821, 43), (137, 64, 816, 817), (138, 64, 841, 842), (139, 64, 845, 846), (140, 64, 849, 850), (141, 64, 853, 854), (142, 64, 862, 48), (143, 64, 866, 49), (144, 64, 857, 858), (145, 64, 877, 878), (148, 64, 890, 53), (149, 64, 903, 54), (150, 64, 907, 55), (151, 64, 881, 882), (152, 64, 910, 911), (153, 64, 914, 915), (154, 64, 923, 56), (156, 64, 918, 919), (157, 64, 929, 930)]
def am_Ss : List (Nat × Nat × Nat × Nat) := [(75, 58, 273, 0), (76, 58, 276, 0), (77, 58, 279, 0), (78, 58, 284, 0), (79, 58, 354, 0), (86, 64, 665, 0), (87, 64, 654, 0), (88, 64, 669, 0), (91, 64, 680, 0), (96, 64, 778, 0), (97, 64, 713, 0), (98, 64, 710, 0), (99, 64, 789, 0), (100, 64, 693, 0), (146, 64, 897, 0), (147, 64, 894, 0), (155, 64, 926, 0), (158, 67, 500, 0), (159, 66, 409, 0), (160, 66, 416, 0), (163, 60, 83, 0)]
def am_Is : List (Nat × Nat × Nat × Nat) := [(0, 61, 136, 0), (4, 62, 153, 0), (13, 63, 188, 0), (30, 59, 79, 0), (50, 58, 71, 0), (85, 64, 607, 0)]
set_option maxRecDepth 100000 in
theorem am_Vs_ok : am_Vs.all am_okV = true := by decide +kernel
set_option maxRecDepth 100000 in
theorem am_Ss_ok : am_Ss.all am_okS = true := by decide +kernel
set_option maxRecDepth 100000 in
theorem am_Is_ok : am_Is.all am_okI = true := by decide +kernel
def am_has (l : List (Nat × Nat × Nat × Nat)) (a : Nat) : Bool := l.any (fun q => Nat.beq q.1 a)
def am_len : Instr → Nat → Nat
  | .bipush _, _ => 2 | .sipush _, _ => 3 | .ldc _, _ => 2 | .ldc_w _, _ => 3 | .ldc2_w _, _ => 3
  | .iload _, _ => 2 | .lload _, _ => 2 | .aload _, _ => 2 | .istore _, _ => 2 | .lstore _, _ => 2 | .astore _, _ => 2 | .iinc _ _, _ => 3
  | .ifCond _ _, _ => 3 | .if_icmp _ _, _ => 3 | .goto _, _ => 3 | .tableswitch _ _ _ _, n => n | .lookupswitch _ _, n => n
  | .getfield _, _ => 3 | .putfield _, _ => 3 | .getstatic _, _ => 3 | .new _, _ => 3 | .newarray _, _ => 2 | .anewarray _, _ => 3
  | .invokevirtual _, _ => 3 | .invokestatic _, _ => 3 | .invokespecial _, _ => 3
  | _, _ => 1
def am_tsw (pc : Nat) (lo : Int) (offs : Array Int) : Nat → List (Int32 × Nat) → Bool
  | _, [] => true
  | j, q :: t => decide (q.1.toInt = lo + j) && (match offs[j]? with
    | some o => decide ((pc : Int) + o = (q.2 : Int))
    | none => false) && am_tsw pc lo offs (j + 1) t
def am_aty (t : ArrayType) : Nat := match t with
  | .char => 0
  | .int => 1
  | .boolean => 2
  | _ => 9
def am_num (v : Int32) (a z : Nat) : Bool := decide (¬ v < 0) && decide (v.toNatClampNeg = a) && Nat.ble (a * z) 536870912
def am_cls (a : Nat) : vw_C := vwCl.getD a ("", fun _ => ("", "", "", false), 0)
def am_fin (k : Nat) (q : String × String × String × Bool) : Bool := !q.2.2.2 || (decide ((mY k).name = "<init>") && decide (q.1 = (mY k).cls))
def am_fty (f : Nat) (desc : String) : Bool := match f, parseFieldDescriptor desc with
  | 0, some .int => true
  | 1, some (.object _) => true
  | 1, some (.array _) => true
  | 2, some .boolean => true
  | _, _ => false
def am_ckf (k i a b c f : Nat) : Bool := Nat.blt a 6 && Nat.blt b (am_cls a).2.2 && am_wd c (.fieldLink (mY k).cls i ((am_cls a).2.1 b).1 ((am_cls a).2.1 b).2.1 ((am_cls a).2.1 b).2.2.1) && am_fty f ((am_cls a).2.1 b).2.2.1 && decide ((am_fk a)[b]? = some (Nat.beq f 1))
set_option maxRecDepth 100000 in
theorem am_mx : lw_tbl[548]? = some (Cond.code Lib.Math.max.name Lib.Math.max.code 2 (some .int)) := rfl
set_option maxRecDepth 100000 in
theorem am_ma : lw_tbl[440]? = some (Cond.code Lib.Math.abs.name Lib.Math.abs.code 1 (some .int)) := rfl
theorem am_mm : (am_wd 547 (.static Lib.Math.max.name) && am_wd 439 (.static Lib.Math.abs.name) && am_wd 66 (.initialized "java/lang/Math")) = true := by decide +kernel
def am_isC : Bool := am_wd 253 (.native arraycopyName) && am_wd 252 (.static arraycopyName) && am_wd 65 (.initialized "java/lang/System")
set_option maxRecDepth 100000 in
theorem am_oc : lw_tbl[75]? = some (Cond.code objectInit ⟨#[0xb1]⟩ 1 none) := rfl
def am_isO : Bool := am_wd 74 (.instanceMethod objectInit) && true
theorem am_isC_ok : am_isC = true := by decide +kernel
theorem am_isO_ok : am_isO = true := by decide +kernel
def am_ck3 (k : Nat) (x : aI) : Bool :=
  match x with
  | (pc, ins, _, a, b, c, f, v, l, sw) =>
  match ins with
  | .iconst n => decide (Int32.ofInt n = v)
  | .bipush n => decide ((Int8.ofInt n).toInt32 = v)
  | .sipush n => decide ((Int16.ofInt n).toInt32 = v)
  | .ldc i => am_wd c (.constant (mY k).cls i v)
  | .ldc_w i => am_wd c (.constant (mY k).cls i v)
  | .ldc2_w i => am_wd c (.constantLong (mY k).cls i l)
  | .istore_n j => Nat.blt j.val (mL k)
  | .istore j => Nat.blt j (mL k)
  | .astore_n j => Nat.blt j.val (mL k)
  | .astore j => Nat.blt j (mL k)
  | .lstore_n j => Nat.blt (j.val + 1) (mL k)
  | .lstore j => Nat.blt (j + 1) (mL k)
  | .iinc j n => Nat.blt j (mL k) && decide (Int32.ofInt n = v)
  | .ifCond _ off => decide ((pc : Int) + off = (a : Int))
  | .if_icmp _ off => decide ((pc : Int) + off = (a : Int))
  | .goto off => decide ((pc : Int) + off = (a : Int))
  | .tableswitch d lo hi offs => decide ((pc : Int) + d = (a : Int)) && decide (hi = lo + (sw.length : Int) - 1) && am_tsw pc lo offs 0 sw
  | .lookupswitch d ps => decide ((pc : Int) + d = (a : Int)) && (ps.toList.zip (ps.toList.drop 1)).all (fun q => decide (q.1.1 < q.2.1)) && decide (ps.toList.map (fun q => (q.1, (pc : Int) + q.2)) = sw.map (fun q => (q.1.toInt, (q.2 : Int))))
  | .getfield i => am_ckf k i a b c f
  | .putfield i => am_ckf k i a b c f && am_fin k ((am_cls a).2.1 b)
  | .getstatic i => am_wd c (.fieldLink (mY k).cls i "FaceRounds" "SINES" "[I")
  | .new i => Nat.blt a 6 && am_wd c (.classLink (mY k).cls i (am_cls a).1) && Nat.beq f (am_cls a).2.2 && am_wd v.toNatClampNeg (.instantiable (am_cls a).1 f) && am_wd b (.initialized (am_cls a).1)
  | .newarray t => am_wd c (.arrayClass (newarray.typeOf t)) && Nat.beq (am_aty t) b && Nat.blt b 3 && am_num v a (componentBytes (newarray.typeOf t))
  | .anewarray i => am_wd c (.classLink (mY k).cls i "FaceRounds$State") && Nat.beq b 3 && am_num v a 4
  | .invokevirtual i => am_has am_Vs a && am_wd c (.methodLink (mY k).cls i (mY a)) && Nat.blt b 6 && decide ((am_cls b).1 = (mY a).cls) && (match f with
    | 0 => decide (mR a = none)
    | _ => !decide (mR a = none))
  | .invokestatic i => (match b with
    | 2 => am_wd c (.methodLink (mY k).cls i arraycopyName) && am_isC
    | 3 => am_wd c (.methodLink (mY k).cls i Lib.Math.max.name)
    | 4 => am_wd c (.methodLink (mY k).cls i Lib.Math.abs.name)
    | 1 => am_has am_Ss a && decide (am_nest[c]? = some (.methodLinkNest (mY k).cls i (mY a) "FaceRounds"))
    | _ => am_has am_Ss a && am_wd c (.methodLink (mY k).cls i (mY a)))
  | .invokespecial i => (match b with
    | 2 => am_wd c (.methodLink (mY k).cls i objectInit) && am_isO
    | 1 => am_has am_Is a && decide (am_nest[c]? = some (.methodLinkNest (mY k).cls i (mY a) "FaceRounds"))
    | _ => am_has am_Is a && am_wd c (.methodLink (mY k).cls i (mY a)))
  | .ireturn => (match mR k with
    | some .int => true
    | some .boolean => Nat.beq f 1
    | _ => false)
  | .return_ => decide (mR k = none)
  | _ => true
def am_ck (k : Nat) (x : aI) : Bool := decide (decode (mB k) x.1 = .ok (x.2.1, x.2.2.1)) && Nat.beq x.2.2.1 (am_len x.2.1 x.2.2.1) && am_ck3 k x
theorem am_ck_ok {k : Nat} {x : aI} (h : am_ck k x = true) : decode (mB k) x.1 = .ok (x.2.1, am_len x.2.1 x.2.2.1) ∧ am_ck3 k x = true := by
  simp only [am_ck, Bool.and_eq_true, decide_eq_true_eq] at h
  obtain ⟨⟨h1, h2⟩, h3⟩ := h
  rw [Nat.eq_of_beq_eq_true h2] at h1
  exact ⟨h1, h3⟩
