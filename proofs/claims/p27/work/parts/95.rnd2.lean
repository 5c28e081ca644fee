/-! isRoundSo: the targets -/
def upto (b : Nat → Bool) (n : Nat) : Nat → Bool := fun x => decide (x < n) && b x
theorem upto_t {b : Nat → Bool} {n : Nat} (hn : n < 6) (h : b n = true) : bs (upto b n) 6 ||| ((1 : Int32) <<< (nI n &&& 31)) = bs (upto b (n + 1)) 6 := by
  rw [bs_one hn, bs_or]
  refine bs_congr (fun x _ => ?_)
  show ((decide (x < n) && b x) || decide (x = n)) = (decide (x < n + 1) && b x)
  by_cases e : x = n
  · subst e
    simp [h]
  · by_cases e2 : x < n
    · simp [e, e2, show x < n + 1 by omega]
    · simp [e, e2, show ¬ x < n + 1 by omega]
theorem upto_f {b : Nat → Bool} {n : Nat} (h : b n = false) : bs (upto b n) 6 = bs (upto b (n + 1)) 6 := by
  refine bs_congr (fun x _ => ?_)
  show (decide (x < n) && b x) = (decide (x < n + 1) && b x)
  by_cases e : x = n
  · subst e
    simp [h]
  · by_cases e2 : x < n
    · simp [e2, show x < n + 1 by omega]
    · simp [e2, show ¬ x < n + 1 by omega]
theorem upto_6 {b : Nat → Bool} : bs (upto b 6) 6 = bs b 6 := by
  refine bs_congr (fun x hx => ?_)
  show (decide (x < 6) && b x) = b x
  simp [hx]
theorem upto_0 {b : Nat → Bool} : bs (upto b 0) 6 = 0 := by
  rw [bs_zero]
  refine bs_congr (fun x _ => ?_)
  show (decide (x < 0) && b x) = false
  simp
theorem av_gt {y m : Int32} (hm : 0 ≤ m.toInt) (hy : -648000 ≤ y.toInt ∧ y.toInt ≤ 648000) : ¬ av y ≤ m ↔ (m < y ∨ ¬ -y ≤ m) := by
  obtain ⟨h1, h2, h3⟩ := av_toI hy
  have hn := neg_toI hy
  by_cases c : 0 ≤ y.toInt
  · rw [h1 c, Int32.le_iff_toInt_le, Int32.lt_iff_toInt_lt, Int32.le_iff_toInt_le, hn]
    omega
  · rw [h2 (by omega), Int32.le_iff_toInt_le, Int32.lt_iff_toInt_lt, hn]
    omega
theorem fdv_toI {x y : Int32} (hy : 0 < y.toInt) : (fdv x y).toInt = x.toInt / y.toInt := by
  have h1 := x.le_toInt
  have h2 := x.toInt_lt
  unfold fdv
  refine Int32.toInt_ofInt_of_le ?_ ?_
  · have : x.toInt / y.toInt ≥ -2147483648 := by
      apply Int.le_ediv_of_mul_le hy
      have : (-2147483648) * y.toInt ≤ -2147483648 * 1 := Int.mul_le_mul_of_nonpos_left (by omega) (by omega)
      omega
    omega
  · have : x.toInt / y.toInt < 2147483648 := by
      apply Int.ediv_lt_of_lt_mul hy
      have : 2147483648 * 1 ≤ 2147483648 * y.toInt := Int.mul_le_mul_of_nonneg_left (by omega) (by omega)
      omega
    omega
theorem sgR_rg (G : aG) (r t : Nat) : -324000 ≤ (sgR G r t).toInt ∧ (sgR G r t).toInt ≤ 324000 := by
  have h := nr_rg (cot (G r).2 (nI t) - 648000 - cot (G r).1 (nI t))
  have e : (-(apt (G r).1 (G r).2 (nI t))).toInt = -(apt (G r).1 (G r).2 (nI t)).toInt := neg_toI (by unfold apt; omega)
  unfold sgR sgt
  rw [fdv_toI (by decide), e, show (2 : Int32).toInt = 2 from by decide]
  unfold apt
  omega
theorem msd_rg (G : aG) (r : Nat) : ∀ t : Nat, t ≤ 6 → -324000 * (t : Int) ≤ (msd G r t).2.toInt ∧ (msd G r t).2.toInt ≤ 324000 * (t : Int)
  | 0, _ => by
    show -324000 * ((0 : Nat) : Int) ≤ (0 : Int32).toInt ∧ (0 : Int32).toInt ≤ 324000 * ((0 : Nat) : Int)
    decide
  | t + 1, ht => by
    have ih := msd_rg G r t (by omega)
    have hs := sgR_rg G r t
    rw [msd_s]
    split
    · show -324000 * ((t + 1 : Nat) : Int) ≤ ((msd G r t).2 + sgR G r t).toInt ∧ ((msd G r t).2 + sgR G r t).toInt ≤ 324000 * ((t + 1 : Nat) : Int)
      rw [Int32.toInt_add, Int.bmod_eq_of_le (by omega) (by omega)]
      omega
    · omega
theorem q6_none {G : aG} {r : Nat} : (if (msd G r 6).1 = 0 then (-2000005 : Int32) else fdv (msd G r 6).2 (nI (msd G r 6).1)) = -2000005 ↔ bs (us G r) 6 = 0 := by
  have hc := msd_cb G r 6
  have hle := cb_le (us G r) 6
  have hz : (msd G r 6).1 = 0 ↔ bs (us G r) 6 = 0 := by
    rw [hc, (bs_z _).1]
    constructor
    · intro h t ht
      cases e : us G r t with
      | false => rfl
      | true =>
        have := cb_lt (b := fun _ => false) (c := us G r) (n := 6) (k := t) (fun j _ hj => absurd hj (by decide)) ht rfl e
        omega
    · intro h
      have := cb_mono (b := us G r) (c := fun _ => false) (n := 6) (fun j hj hb => by rw [h j hj] at hb; cases hb)
      have e0 : cb (fun _ => false) 6 = 0 := by decide
      omega
  rw [← hz]
  constructor
  · intro h
    apply Classical.byContradiction
    intro h0
    rw [if_neg h0] at h
    have h1 := msd_rg G r 6 (by omega)
    have hn : 0 < (nI (msd G r 6).1).toInt := by rw [nI_toI (by omega)]; omega
    have h2 := congrArg Int32.toInt h
    rw [fdv_toI hn, nI_toI (by omega), show (-2000005 : Int32).toInt = -2000005 from by decide] at h2
    have h3 : (msd G r 6).2.toInt / ((msd G r 6).1 : Int) ≥ -1944000 := by
      apply Int.le_ediv_of_mul_le (by omega)
      have : (-1944000) * ((msd G r 6).1 : Int) ≤ -1944000 * 1 := Int.mul_le_mul_of_nonpos_left (by omega) (by omega)
      omega
    omega
  · intro h
    rw [if_pos h]
theorem own_le3 {f g : aFace} {t : Int32} : own f g t < 5000 := Nat.lt_of_le_of_lt (own_le f g t) (by decide)
theorem nI_z {n : Nat} (h : n < 5000) : nI n = 0 ↔ n = 0 := ⟨fun e => nI_inj (b := 0) h (by decide) e, fun e => by rw [e]; rfl⟩
theorem nI_gt0 {n : Nat} (h : n < 5000) : 0 < nI n ↔ 0 < n := by
  rw [Int32.lt_iff_toInt_lt, nI_toI h, show (0 : Int32).toInt = 0 from rfl]
  omega
theorem lef_0 {G : aG} {N r : Nat} : lef G N r 0 = 0 := by
  unfold lef dirI
  rw [reR_0, dst_0]
  have : fdv 0 (nI (dst G 0 N).1) = 0 := by
    unfold fdv
    rw [show (0 : Int32).toInt = 0 from rfl, Int.zero_ediv]
    rfl
  show nr (0 - fmd (0 + fdv 0 (nI (dst G 0 N).1))) = 0
  rw [this]
  decide
theorem qC_5 {G : aGl} : qCount G 5 = (gcur G).2.1 := by
  rw [qCount, if_neg (by decide), if_neg (by decide), if_neg (by decide), if_neg (by decide), if_neg (by decide), if_pos rfl]
section
variable {z d : Nat} {G : aGl} {un rn : Nat} {Post : Option Value → aW → Prop}
/-- the sets of target t's step: used, both, bad -/
def usT (G : aGl) (un rn : Nat) : Nat → Bool := us (GA (gcur G) un) rn
def boT (G : aGl) (un rn : Nat) : Nat → Bool := fun x => decide (own (aF (gcur G) ((un * 6 + rn) * 2)) (aF (gcur G) ((un * 6 + rn) * 2 + 1)) (nI x) = 0)
def baT (G : aGl) (un rn : Nat) : Nat → Bool := bad (GA (gcur G) un) (aR (gcur G) un) (gcur G).2.1 rn
def wyT (G : aGl) (un rn t : Nat) : Nat := why (aF (gcur G) ((un * 6 + rn) * 2)) (aF (gcur G) ((un * 6 + rn) * 2 + 1)) (nI t)
theorem usT_iff {t : Nat} : usT G un rn t = true ↔ wyT G un rn t = 0 := by
  unfold usT us
  rw [decide_eq_true_eq]
  rfl
theorem wyT_lt {t : Nat} : wyT G un rn t < 5000 := Nat.lt_of_le_of_lt (why_le _ _ _) (by decide)
/-- what both rows hold at the end -/
def rowsF (z : Nat) (G : aGl) (un rn : Nat) (C : Nat → Nat → Int32) : Prop := rows z C 0 (bs (hasS (aF (gcur G) ((un * 6 + rn) * 2)) (aF (gcur G) ((un * 6 + rn) * 2)).1) 6) (bs (outS (aF (gcur G) ((un * 6 + rn) * 2)) (aF (gcur G) ((un * 6 + rn) * 2)).1) 6) ∧ rows z C 1 (bs (hasS (aF (gcur G) ((un * 6 + rn) * 2 + 1)) (aF (gcur G) ((un * 6 + rn) * 2 + 1)).1) 6) (bs (outS (aF (gcur G) ((un * 6 + rn) * 2 + 1)) (aF (gcur G) ((un * 6 + rn) * 2 + 1)).1) 6)
theorem rowsF_fr {C C' : Nat → Nat → Int32} (h : ∀ x, 74 ≤ x → C' x = C x) (hr : rowsF z G un rn C) : rowsF z G un rn C' := ⟨rows_fr h hr.1, rows_fr h hr.2⟩
/-- behind the sets: what is told of the target -/
theorem rnd_464 (hg : gG G) (ht : there G un rn) {t : Nat} (h6 : t < 6) {x3 x4 x5 : Int32}
    (next : ∀ C p o11 o12 o13 o14 o15 o16, seeG C p G → rowsF z G un rn C → rAt z d un rn Post 297 x3 x4 x5 (bs (upto (baT G un rn) (t + 1)) 6) [some (.int (nI t + 1)), o11, o12, o13, o14, o15, o16] [] C p)
    {y : Int32} (hy : bs (upto (baT G un rn) t) 6 ||| y = bs (upto (baT G un rn) (t + 1)) 6) {C : Nat → Nat → Int32} {p : Nat → Option Nat} {o13 o14 o15 o16 : Option Value} (hs : seeG C p G) (hr : rowsF z G un rn C) :
    rAt z d un rn Post 464 x3 x4 x5 (bs (upto (baT G un rn) t) 6) [some (.int (nI t)), some (.int (nI (wyT G un rn t))), some (.int (qReduced G (nI un) (nI rn) (nI t) 1)), o13, o14, o15, o16] [.int y, .int (bs (upto (baT G un rn) t) 6)] C p := by
  refine s_L_isRoundSo_464 ⟨fun h => absurd h one1, fun _ => use_F (m_reduced hg hs) fun C1 p1 hs1 hf1 => ?_⟩
  rw [hy]
  change seeG C1 p1 G at hs1
  have hr := rowsF_fr hf1 hr
  refine s_L_isRoundSo_481 ⟨fun h => absurd (qd_3 ht h6) h, fun _ => ?_⟩
  have hq1 : qReduced G (nI un) (nI rn) (nI t) 1 = if usT G un rn t = true then lef (GA (gcur G) un) (aR (gcur G) un) rn t else -2000005 := qd_1 ht h6
  by_cases hu : usT G un rn t = true
  · have hw : wyT G un rn t = 0 := usT_iff.mp hu
    rw [if_pos hu] at hq1
    have hne5 : ¬ qReduced G (nI un) (nI rn) (nI t) 1 = -2000005 := by rw [hq1]; exact nr_ne5 _
    refine ⟨fun h => absurd ((nI_z wyT_lt).mpr hw) h, fun _ => s_L_isRoundSo_496 ⟨fun h => absurd h hne5, fun _ => s_L_isRoundSo_508 ⟨fun h => absurd rfl h, fun _ => ⟨fun h => absurd ((nI_gt0 wyT_lt).mp h) (by omega), fun _ => use_F (m_reduced hg hs1) fun C2 p2 hs2 hf2 => s_L_isRoundSo_527 (use_F (m_direction hg hs2) fun C3 p3 hs3 hf3 => s_L_isRoundSo_535 (use_I m_L_near (s_L_isRoundSo_539 ⟨fun h => absurd ?_ h, fun _ => ⟨fun _ => next _ _ _ _ _ _ _ _ hs3 (rowsF_fr hf3 (rowsF_fr hf2 hr)), fun h => ?_⟩⟩)))⟩⟩⟩⟩
    · show qReduced G (nI un) (nI rn) (nI t) 1 = nr (qReduced G (nI un) (nI rn) (nI t) 0 - qDirection G (nI un) (nI t) 0)
      have hu' : us (GA (gcur G) un) rn t = true := hu
      have hd : dirA (gcur G) un t = some (dirI (GA (gcur G) un) (aR (gcur G) un) t) := dirO_some (by have := dst_pos ht.2.1 hu'; omega)
      rw [hq1, qd_0 ht h6, if_pos hu', qD_0 ht.1 ht.2.2.1 h6, dv, hd]
      rfl
    · have et : t = 0 := by
        have := mt (nI_gt0 (n := t) (by omega)).mpr h
        omega
      subst et
      refine ⟨fun h => absurd ?_ h, fun _ => use_F (m_reduced hg hs3) fun C4 p4 hs4 hf4 => s_L_isRoundSo_560 ⟨fun h => absurd ?_ h, fun _ => next _ _ _ _ _ _ _ _ hs4 (rowsF_fr hf4 (rowsF_fr hf3 (rowsF_fr hf2 hr)))⟩⟩
      · rw [hq1]
        exact lef_0
      · have hu' : us (GA (gcur G) un) rn 0 = true := hu
        have e := qd_0 (t := 0) ht (by decide)
        rw [if_pos hu', reR_0] at e
        exact e
  · have hw : ¬ wyT G un rn t = 0 := fun h => hu (usT_iff.mpr h)
    rw [if_neg hu] at hq1
    exact ⟨fun _ => s_L_isRoundSo_496 ⟨fun _ => s_L_isRoundSo_508 ⟨fun h => absurd rfl h, fun _ => ⟨fun _ => next _ _ _ _ _ _ _ _ hs1 hr, fun h => absurd ((nI_gt0 wyT_lt).mpr (by omega)) h⟩⟩, fun h => absurd hq1 h⟩, fun h => absurd ((nI_z wyT_lt).mp h) hw⟩
/-- from why it is not used: the sets of used and bad ones -/
theorem rnd_397 (hg : gG G) (ht : there G un rn) {t : Nat} (h6 : t < 6) {x3 x5 : Int32}
    (next : ∀ C p o11 o12 o13 o14 o15 o16, seeG C p G → rowsF z G un rn C → rAt z d un rn Post 297 x3 (bs (upto (usT G un rn) (t + 1)) 6) x5 (bs (upto (baT G un rn) (t + 1)) 6) [some (.int (nI t + 1)), o11, o12, o13, o14, o15, o16] [] C p)
    {C : Nat → Nat → Int32} {p : Nat → Option Nat} {x11 : Int32} {o12 o13 o14 o15 o16 : Option Value} (hs : seeG C p G) (hr : rowsF z G un rn C) :
    rAt z d un rn Post 397 x3 (bs (upto (usT G un rn) t) 6) x5 (bs (upto (baT G un rn) t) 6) [some (.int (nI t)), some (.int x11), o12, o13, o14, o15, o16] [.int (nI (wyT G un rn t))] C p := by
  have hl := hg.1.2.1.1
  have i0 : (0 : Int32).toInt = 0 := rfl
  refine s_L_isRoundSo_397 (use_F (m_reduced hg hs) fun C1 p1 hs1 hf1 => ?_)
  change seeG C1 p1 G at hs1
  have hr := rowsF_fr hf1 hr
  have hq1 : qReduced G (nI un) (nI rn) (nI t) 1 = if usT G un rn t = true then lef (GA (gcur G) un) (aR (gcur G) un) rn t else -2000005 := qd_1 ht h6
  by_cases hu : usT G un rn t = true
  · have hw : wyT G un rn t = 0 := usT_iff.mp hu
    have hw0 := (nI_z wyT_lt).mpr hw
    rw [if_pos hu] at hq1
    have hu' : us (GA (gcur G) un) rn t = true := hu
    have hb : baT G un rn t = true ↔ ((gcur G).2.1 < qReduced G (nI un) (nI rn) (nI t) 1 ∨ ¬ -(qReduced G (nI un) (nI rn) (nI t) 1) ≤ (gcur G).2.1) := by
      rw [hq1, ← av_gt (by omega) (lef_rg _ _ _ _)]
      unfold baT bad
      rw [decide_eq_true_eq, lws, if_pos hu']
    have yes : ∀ C p, seeG C p G → rowsF z G un rn C → baT G un rn t = true → rAt z d un rn Post 456 x3 (bs (upto (usT G un rn) (t + 1)) 6) x5 (bs (upto (baT G un rn) t) 6) [some (.int (nI t)), some (.int (nI (wyT G un rn t))), some (.int (qReduced G (nI un) (nI rn) (nI t) 1)), o13, o14, o15, o16] [.int (bs (upto (baT G un rn) t) 6)] C p := fun C p hs hr hb => s_L_isRoundSo_456 (rnd_464 hg ht h6 next (upto_t h6 hb) hs hr)
    refine s_L_isRoundSo_408 ⟨fun h => absurd hw0 h, fun _ => s_L_isRoundSo_425 ⟨fun h => absurd hw0 h, fun _ => use_F (m_count hg hs1) fun C2 p2 hs2 hf2 => ?_⟩⟩
    change seeG C2 p2 G at hs2
    have hr := rowsF_fr hf2 hr
    rw [upto_t h6 hu]
    refine s_L_isRoundSo_442 ⟨fun h => yes _ _ hs2 hr (hb.mpr (Or.inl ?_)), fun h => use_F (m_count hg hs2) fun C3 p3 hs3 hf3 => s_L_isRoundSo_453 ⟨fun h2 => s_L_isRoundSo_463 (rnd_464 hg ht h6 next ?_ hs3 (rowsF_fr hf3 hr)), fun h2 => yes _ _ hs3 (rowsF_fr hf3 hr) (hb.mpr (Or.inr ?_))⟩⟩
    · change qCount G 5 < _ at h
      rw [qC_5] at h
      exact h
    · change ¬ qCount G 5 < _ at h
      change _ ≤ qCount G 5 at h2
      rw [qC_5] at h h2
      rw [Int32.or_zero]
      refine upto_f ?_
      cases e : baT G un rn t with
      | false => rfl
      | true =>
        rcases hb.mp e with e | e
        · exact absurd e h
        · exact absurd h2 e
    · change ¬ _ ≤ qCount G 5 at h2
      rw [qC_5] at h2
      exact h2
  · have hw : ¬ wyT G un rn t = 0 := fun h => hu (usT_iff.mpr h)
    have hw0 : ¬ nI (wyT G un rn t) = 0 := fun h => hw ((nI_z wyT_lt).mp h)
    have hu' : ¬ us (GA (gcur G) un) rn t = true := hu
    have hb : baT G un rn t = false := by
      unfold baT bad
      rw [lws, if_neg hu', decide_eq_false_iff_not]
      intro h
      apply h
      rw [Int32.le_iff_toInt_le, i0]
      omega
    refine s_L_isRoundSo_408 ⟨fun _ => s_L_isRoundSo_425 ⟨fun _ => s_L_isRoundSo_463 ?_, fun h => absurd h hw0⟩, fun h => absurd h hw0⟩
    rw [Int32.or_zero, upto_f (b := usT G un rn) (by cases e : usT G un rn t with
      | false => rfl
      | true => exact absurd e hu)]
    exact rnd_464 hg ht h6 next (by rw [Int32.or_zero]; exact upto_f hb) hs1 hr
/-- from its own reason -/
theorem rnd_359 (hg : gG G) (ht : there G un rn) {t : Nat} (h6 : t < 6) {x3 : Int32}
    (next : ∀ C p o11 o12 o13 o14 o15 o16, seeG C p G → rowsF z G un rn C → rAt z d un rn Post 297 x3 (bs (upto (usT G un rn) (t + 1)) 6) (bs (upto (boT G un rn) (t + 1)) 6) (bs (upto (baT G un rn) (t + 1)) 6) [some (.int (nI t + 1)), o11, o12, o13, o14, o15, o16] [] C p)
    {C : Nat → Nat → Int32} {p : Nat → Option Nat} {o11 o12 o13 o14 o15 o16 : Option Value} (hs : seeG C p G) (hr : rowsF z G un rn C) :
    rAt z d un rn Post 359 x3 (bs (upto (usT G un rn) t) 6) (bs (upto (boT G un rn) t) 6) (bs (upto (baT G un rn) t) 6) [some (.int (nI t)), o11, o12, o13, o14, o15, o16] [.int (nI (own (aF (gcur G) ((un * 6 + rn) * 2)) (aF (gcur G) ((un * 6 + rn) * 2 + 1)) (nI t)))] C p := by
  have hz := nI_z (own_le3 (f := aF (gcur G) ((un * 6 + rn) * 2)) (g := aF (gcur G) ((un * 6 + rn) * 2 + 1)) (t := nI t))
  have t0 : nI t = 0 ↔ t = 0 := nI_z (by omega)
  have wy : wyT G un rn t = if own (aF (gcur G) ((un * 6 + rn) * 2)) (aF (gcur G) ((un * 6 + rn) * 2 + 1)) (nI t) ≠ 0 ∨ nI t = 0 then own (aF (gcur G) ((un * 6 + rn) * 2)) (aF (gcur G) ((un * 6 + rn) * 2 + 1)) (nI t) else if own (aF (gcur G) ((un * 6 + rn) * 2)) (aF (gcur G) ((un * 6 + rn) * 2 + 1)) 0 = 0 then 0 else 4 := rfl
  by_cases h0 : own (aF (gcur G) ((un * 6 + rn) * 2)) (aF (gcur G) ((un * 6 + rn) * 2 + 1)) (nI t) = 0
  · have hb : boT G un rn t = true := decide_eq_true h0
    refine s_L_isRoundSo_359 ⟨fun h => absurd (hz.mpr h0) h, fun _ => ?_⟩
    have e1 := bs_and1 (upto (boT G un rn) (t + 1))
    have e2 : upto (boT G un rn) (t + 1) 0 = boT G un rn 0 := by
      show (decide (0 < t + 1) && boT G un rn 0) = boT G un rn 0
      rw [decide_eq_true (Nat.succ_pos t), Bool.true_and]
    rw [e2] at e1
    have e3 : boT G un rn 0 = true ↔ own (aF (gcur G) ((un * 6 + rn) * 2)) (aF (gcur G) ((un * 6 + rn) * 2 + 1)) 0 = 0 := decide_eq_true_iff
    refine s_L_isRoundSo_376 ⟨fun h => absurd (hz.mpr h0) h, fun _ => ?_⟩
    rw [upto_t h6 hb]
    refine ⟨fun h => s_L_isRoundSo_395 ?_, fun h => ?_⟩
    · have h3 : own (aF (gcur G) ((un * 6 + rn) * 2)) (aF (gcur G) ((un * 6 + rn) * 2 + 1)) 0 = 0 := by
        refine e3.mp ?_
        cases e : boT G un rn 0 with
        | true => rfl
        | false => exact absurd (e1.mpr e) h
      have hw : wyT G un rn t = own (aF (gcur G) ((un * 6 + rn) * 2)) (aF (gcur G) ((un * 6 + rn) * 2 + 1)) (nI t) := by
        rw [wy]
        split
        · rfl
        · exact h0.symm
      have := rnd_397 (z := z) (d := d) (Post := Post) (x3 := x3) (x11 := nI (wyT G un rn t)) (o12 := o12) (o13 := o13) (o14 := o14) (o15 := o15) (o16 := o16) hg ht h6 next hs hr
      rw [hw] at this
      exact this
    · have h3 : ¬ own (aF (gcur G) ((un * 6 + rn) * 2)) (aF (gcur G) ((un * 6 + rn) * 2 + 1)) 0 = 0 := by
        intro h3
        rw [e1.mp h] at e3
        exact absurd (e3.mpr h3) (by decide)
      have hw : wyT G un rn t = 4 := by
        rw [wy, if_neg (by
          intro hh
          rcases hh with hh | hh
          · exact hh h0
          · rw [hh] at h0
            exact h3 h0), if_neg h3]
      have := rnd_397 (z := z) (d := d) (Post := Post) (x3 := x3) (x11 := nI (own (aF (gcur G) ((un * 6 + rn) * 2)) (aF (gcur G) ((un * 6 + rn) * 2 + 1)) (nI t))) (o12 := o12) (o13 := o13) (o14 := o14) (o15 := o15) (o16 := o16) hg ht h6 next hs hr
      rw [hw] at this
      exact this
  · have hb : boT G un rn t = false := decide_eq_false h0
    have hn : ¬ nI (own (aF (gcur G) ((un * 6 + rn) * 2)) (aF (gcur G) ((un * 6 + rn) * 2 + 1)) (nI t)) = 0 := fun h => h0 (hz.mp h)
    refine s_L_isRoundSo_359 ⟨fun _ => s_L_isRoundSo_376 ⟨fun _ => s_L_isRoundSo_395 ?_, fun h => absurd h hn⟩, fun h => absurd h hn⟩
    rw [Int32.or_zero, upto_f hb]
    have hw : wyT G un rn t = own (aF (gcur G) ((un * 6 + rn) * 2)) (aF (gcur G) ((un * 6 + rn) * 2 + 1)) (nI t) := by rw [wy, if_pos (Or.inl h0)]
    have := rnd_397 (z := z) (d := d) (Post := Post) (x3 := x3) (x11 := nI (wyT G un rn t)) (o12 := o12) (o13 := o13) (o14 := o14) (o15 := o15) (o16 := o16) hg ht h6 next hs hr
    rw [hw] at this
    exact this
end
