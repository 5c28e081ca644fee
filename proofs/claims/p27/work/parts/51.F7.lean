/-! round, reduced, direction, angle, byAngles -/
variable {zN : Nat}
theorem us_0 {G : aG} {r t : Nat} (h : us G r t = true) : us G r 0 = true := by
  simp only [us, decide_eq_true_eq] at h ⊢
  have h2 := (why_used h).2
  have e : why (G r).1 (G r).2 (nI 0) = own (G r).1 (G r).2 0 := by
    unfold why
    rw [if_pos (Or.inr (show nI 0 = 0 from rfl))]
    rfl
  rw [e]
  exact h2
theorem reR_0 {G : aG} {r : Nat} : reR G r 0 = 0 := by
  unfold reR red
  rw [show nI 0 = 0 from rfl, Int32.sub_self]
  decide
theorem dst_0 {G : aG} : ∀ N : Nat, (dst G 0 N).2 = (0, 0)
  | 0 => rfl
  | N + 1 => by
    have ih := dst_0 (G := G) N
    unfold dst
    split
    · rw [reR_0, ih]
      simp only [ite_self]
      decide
    · exact ih
theorem dst_ex {G : aG} {t : Nat} : ∀ {N : Nat}, (dst G t N).1 ≠ 0 → ∃ r, r < N ∧ us G r t = true
  | 0, h => absurd rfl h
  | N + 1, h => by
    unfold dst at h
    by_cases hu : us G N t = true
    · exact ⟨N, by omega, hu⟩
    · rw [if_neg hu] at h
      obtain ⟨r, hr, hr2⟩ := dst_ex h
      exact ⟨r, by omega, hr2⟩
theorem dir_0 {G : aG} {N t : Nat} {x : Int32} (h : dirO G N t = some x) : dirO G N 0 = some 0 := by
  by_cases hc : (dst G t N).1 = 0
  · rw [dirO_none hc] at h
    cases h
  · obtain ⟨r, hr, hu⟩ := dst_ex hc
    have hp := dst_pos hr (us_0 hu)
    rw [dirO_some (by omega), dirI, dst_0]
    have e : fdv 0 (nI (dst G 0 N).1) = 0 := by
      unfold fdv
      rw [show (0 : Int32).toInt = 0 from i32_0, Int.zero_ediv]
      rfl
    rw [e]
    decide
/-- the correction of a target whose direction is x -/
def crn (A : aS) (u t : Nat) (x : Int32) : Int32 := (((aO A u).toInt64 * (am_sine (cn (fmd (aQ A u * 54000 - x + 27000) / 54000))).toInt64 * 206265) / ((aD A t).toInt64 * 1000000)).toInt32
def cdr (A : aS) (u t : Nat) (x : Int32) : Int32 := fmd (x + crn A u t x - crn A u 0 0)
theorem sect {x : Int32} : vp_in (fmd x / 54000) 24 := by
  have h1 := fmd_lo x
  have h2 := fmd_hi x
  have h3 : (fmd x / 54000).toInt = (fmd x).toInt.tdiv 54000 := I_div (y := 54000) (by decide)
  have h5 : (fmd x).toInt.tdiv 54000 = (fmd x).toInt / 54000 := Int.tdiv_eq_ediv_of_nonneg h1
  obtain ⟨k, hk, hk2⟩ := lt_in (x := fmd x / 54000) (n := 24) (by omega) (by omega) (by decide)
  rw [hk]
  exact vpi hk2 (by decide)
theorem den {x : Int32} (h : rg 1 9999 x) : ¬ x.toInt64 * (1000000 : Int64) = 0 := by
  intro e
  have h2 := congrArg Int64.toInt e
  rw [Int64.toInt_mul, Int32.toInt_toInt64] at h2
  have e1 : (1000000 : Int64).toInt = 1000000 := by decide
  have e0 : (0 : Int64).toInt = 0 := by decide
  rw [e1, e0] at h2
  obtain ⟨a, b⟩ := h
  rw [Int.bmod_eq_of_le (by omega) (by omega)] at h2
  omega
def qRound (G : aGl) (u r w : Int32) : Int32 := if hrA (gcur G) u r = false then -2000001 else if ¬ (0 ≤ w.toInt ∧ w.toInt ≤ 7) then -2000002 else if w = 0 ∨ w = 1 then nI (aF (gcur G) (rwx u r w)).1 else if w = 2 ∨ w = 3 then (if (aF (gcur G) (rwx u r (w - 2))).2.2.2.2 = -1 then -2000005 else drf (aF (gcur G) (rwx u r (w - 2)))) else if w = 4 then bs (us (GA (gcur G) (cn u)) (cn r)) 6 else if w = 5 then nI (skR (gcur G) u r) else if w = 6 then (if (msd (GA (gcur G) (cn u)) (cn r) 6).1 = 0 then -2000005 else fdv (msd (GA (gcur G) (cn u)) (cn r) 6).2 (nI (msd (GA (gcur G) (cn u)) (cn r) 6).1)) else bs (bad (GA (gcur G) (cn u)) (aR (gcur G) (cn u)) (gcur G).2.1 (cn r)) 6
def qReduced (G : aGl) (u r t w : Int32) : Int32 := if hrA (gcur G) u r = false then -2000001 else if isT t = false then -2000001 else if ¬ (0 ≤ w.toInt ∧ w.toInt ≤ 3) then -2000002 else if w = 3 then nI (why (aF (gcur G) (rwx u r 0)) (aF (gcur G) (rwx u r 1)) t) else if us (GA (gcur G) (cn u)) (cn r) (cn t) = false then -2000005 else if w = 0 then reR (GA (gcur G) (cn u)) (cn r) (cn t) else if w = 1 then lef (GA (gcur G) (cn u)) (aR (gcur G) (cn u)) (cn r) (cn t) else sgR (GA (gcur G) (cn u)) (cn r) (cn t)
def dirA (A : aS) (u t : Nat) : Option Int32 := dirO (GA A u) (aR A u) t
def qDirection (G : aGl) (u t w : Int32) : Int32 := if hsA (gcur G) u = false then -2000001 else if isT t = false then -2000001 else if ¬ (0 ≤ w.toInt ∧ w.toInt ≤ 4) then -2000002 else if w = 4 then bs (fun r => us (GA (gcur G) (cn u)) r (cn t)) (aR (gcur G) (cn u)) else match dirA (gcur G) (cn u) (cn t) with
  | none => -2000005
  | some x => if w = 0 then x else if w = 1 then crn (gcur G) (cn u) (cn t) x else if w = 2 then cdr (gcur G) (cn u) (cn t) x else mls (GA (gcur G) (cn u)) (aR (gcur G) (cn u)) (cn t) (aR (gcur G) (cn u))
def qAngle (G : aGl) (u a b w : Int32) : Int32 := if hsA (gcur G) u = false then -2000001 else if isT a = false then -2000001 else if isT b = false then -2000001 else match dirA (gcur G) (cn u) (cn a), dirA (gcur G) (cn u) (cn b) with
  | none, _ => -2000005
  | some _, none => -2000005
  | some x, some y => if w = 0 then fmd (y - x) else fmd (cdr (gcur G) (cn u) (cn b) y - cdr (gcur G) (cn u) (cn a) x)
def qByAngles (G : aGl) (u t : Int32) : Int32 := if hsA (gcur G) u = false then -2000001 else if isT t = false then -2000001 else match dirA (gcur G) (cn u) (cn t) with
  | none => -2000005
  | some x => x
section
variable {d : Nat} {C : Nat → Nat → Int32} {p : Nat → Option Nat} {G : aGl} {A : aS}
theorem m_F_toldDrift {row : Nat} (hr : row < 48) : cI zN (d + 3) 81 [.ref 0, .int (nI row)] C p (if C 7 row = -1 then -2000005 else nr (C 7 row - C 9 (row * 6))) C p := by
  apply e_F_toldDrift
  apply s_F_toldDrift_0
  refine use_I (m_S_isClosed hr) (s_F_toldDrift_8 ⟨fun h => ret_I' ?_ rfl rfl, fun h => use_I (m_S_driftOf hr) (s_F_toldDrift_19 (ret_I' ?_ rfl rfl))⟩)
  · rw [bI_eq, decide_eq_false_iff_not, Classical.not_not] at h
    rw [if_pos (show C 7 row = -1 from h)]
  · rw [bI_ne, decide_eq_true_eq] at h
    rw [if_neg (show ¬ C 7 row = -1 from h)]
theorem m_F_correction {u t : Nat} {x : Int32} (hs : sees 1 C A) (hg : good A) (hu : u < 4) (ht : t < 6) (hx : C 73 t = x) : cI zN (d + 2) 83 [.ref 0, .int (nI u), .int (nI t)] C p (crn A u t x) C p := by
  apply e_F_correction
  apply s_F_correction_0
  rw [cl (n := u) (by omega), cl (n := t) (by omega), hx, show C 4 u = aQ A u from hs.2.2.2.2.2.1 u hu]
  have hv := vpi (n := u) (N := 4) hu (by decide)
  have hv2 := vpi (n := t) (N := 6) ht (by decide)
  refine ⟨hv, hv2, use_I m_J_floorMod (s_F_correction_34 ?_)⟩
  rw [cl (n := u) (by omega), cl (n := t) (by omega), show C 3 u = aO A u from hs.2.2.2.2.1 u hu, show C 5 t = aD A t from hs.2.2.1 t ht]
  exact ⟨by decide, hv, sect, hv2, den (hg.2.2.1 t ht), ret_I' rfl rfl rfl⟩
theorem m_F_centredDirection {u t : Nat} {x : Int32} (hs : sees 1 C A) (hg : good A) (hu : u < 4) (ht : t < 6) (hx : C 73 t = x) (h0 : C 73 0 = 0) : cI zN (d + 3) 84 [.ref 0, .int (nI u), .int (nI t)] C p (cdr A u t x) C p := by
  apply e_F_centredDirection
  apply s_F_centredDirection_0
  rw [cl (n := t) (by omega), hx]
  refine ⟨vpi ht (by decide), use_I (m_F_correction hs hg hu ht hx) (s_F_centredDirection_15 (use_I (m_F_correction (t := 0) hs hg hu (by decide) h0) (s_F_centredDirection_22 (use_I m_J_floorMod (s_F_centredDirection_30 (ret_I' ?_ rfl rfl))))))⟩
  rfl
theorem m_round {u r w : Int32} (hg : gG G) (hs : seeG C p G) : am_Call (d + 6) 68 [.ref 0, .int u, .int r, .int w] (am_w zN C p) (am_Ret zN (fP C (qRound G u r w, G))) := by
  have c7 : (7 : Int32).toInt = 7 := by decide
  apply e_F_round
  apply s_F_round_0
  refine use_I (m_S_hasRound (C10_4 hs.1 hg.1)) (s_F_round_9 ?_)
  rw [hrd_A hs.1 hg.1]
  refine ⟨fun h1 => ?_, fun h => leaf0 hs (by rw [qRound, if_pos (bI_eq.mp h)])⟩
  rw [bI_ne] at h1
  unfold qRound
  rw [if_neg (show ¬ hrA (gcur G) u r = false by rw [h1]; decide)]
  obtain ⟨un, rn, rfl, hu1, hu, rfl, hr1, hr⟩ := hrA_ok h1 hg.1
  rw [Int32.lt_iff_toInt_lt, Int32.le_iff_toInt_le, i32_0, c7, cn_nI (n := un) (by omega), cn_nI (n := rn) (by omega)]
  refine ⟨fun h => leaf0 hs (by rw [if_pos (by omega)]), fun a1 => ⟨fun a2 => ?_, fun h => leaf0 hs (by rw [if_pos (by omega)])⟩⟩
  rw [if_neg (by omega)]
  refine use_reckon hs.1 hg.1 hu1 fun C1 hR hk => s_F_round_40 ?_
  have hs1 := seeG_agR hR hs
  have fr1 : ∀ z, 74 ≤ z → C1 z = C z := fun z hz => hR z (by omega)
  rw [show C1 1 1 = (gcur G).2.1 from hs1.1.2.1]
  have e0 : rwx (nI un) (nI rn) 0 = (un * 6 + rn) * 2 + 0 := rwx_nI (f := 0) hu hr (by decide)
  have e1 : rwx (nI un) (nI rn) 1 = (un * 6 + rn) * 2 + 1 := rwx_nI (f := 1) hu hr (by decide)
  have hb : ∀ f, f < 2 → (un * 6 + rn) * 2 + f < 48 := fun f hf => by omega
  have nrow : ∀ (f : Nat) (w : Int32), f < 2 → am_Ci (d + 5) 78 [.int (nI un), .int (nI rn), .int (nI f)] (am_w zN C1 p) (fun v w1 => am_At (d + 5 + 1) 68 none (am_Ret zN (fP C (nI (aF (gcur G) ((un * 6 + rn) * 2 + f)).1, G))) 97 [some (.ref 0), some (.int (nI un)), some (.int (nI rn)), some (.int w)] [.int v, .ref 6] w1 (0, 0)) := by
    intro f w hf
    refine use_I m_F_rowOf (s_F_round_97 ?_)
    have := hb f hf
    rw [cl (by omega), face_n hs1.1 this]
    exact ⟨vpi this (by decide), leaf rfl rfl hs1 fr1⟩
  have drow : ∀ (f : Nat) (w : Int32), f < 2 → am_Ci (d + 5) 78 [.int (nI un), .int (nI rn), .int (nI f)] (am_w zN C1 p) (fun v w1 => am_At (d + 5 + 1) 68 none (am_Ret zN (fP C (if (aF (gcur G) ((un * 6 + rn) * 2 + f)).2.2.2.2 = -1 then -2000005 else drf (aF (gcur G) ((un * 6 + rn) * 2 + f)), G))) 108 [some (.ref 0), some (.int (nI un)), some (.int (nI rn)), some (.int w)] [.int v, .ref 0] w1 (0, 0)) := by
    intro f w hf
    have h48 := hb f hf
    refine use_I m_F_rowOf (s_F_round_108 (use_I (m_F_toldDrift h48) (s_F_round_111 (leaf rfl ?_ hs1 fr1))))
    have hx := face_x hs1.1 h48
    rw [show (aF (gcur G) ((un * 6 + rn) * 2 + f)).2.2.2.2 = C1 7 ((un * 6 + rn) * 2 + f) from hx.symm]
    by_cases hc : C1 7 ((un * 6 + rn) * 2 + f) = -1
    · rw [if_pos hc, if_pos hc]
    · rw [if_neg hc, if_neg hc]
      have hk1 := (hg.1.2.2.2.2.1 _ h48).2.1 (by rw [show (aF (gcur G) ((un * 6 + rn) * 2 + f)).2.2.2.2 = C1 7 ((un * 6 + rn) * 2 + f) from hx.symm]; exact hc)
      rw [drf, show (aF (gcur G) ((un * 6 + rn) * 2 + f)).2.2.2.2 = C1 7 ((un * 6 + rn) * 2 + f) from hx.symm]
      have := (face_k (k := 0) hs1.1 h48 (by omega)).2.1
      rw [← this]
      rfl
  refine ⟨fun h0 => ?_, fun h0 => ⟨fun h1' => ?_, fun h1' => ?_⟩⟩
  · subst h0
    rw [if_pos (Or.inl rfl), e0]
    exact nrow 0 0 (by decide)
  · subst h1'
    rw [if_pos (Or.inr rfl), e1]
    exact nrow 1 1 (by decide)
  rw [if_neg (not_or.mpr ⟨h0, h1'⟩)]
  refine ⟨fun h2 => ?_, fun h2 => ⟨fun h3 => ?_, fun h3 => ?_⟩⟩
  · subst h2
    rw [if_pos (Or.inl rfl), show (2 : Int32) - 2 = 0 from rfl, e0]
    exact drow 0 2 (by decide)
  · subst h3
    rw [if_pos (Or.inr rfl), show (3 : Int32) - 2 = 1 from rfl, e1]
    exact drow 1 3 (by decide)
  rw [if_neg (not_or.mpr ⟨h2, h3⟩)]
  refine ⟨fun h4 => ?_, fun h4 => ?_⟩
  · rw [if_pos h4, cl (by omega), hk.1.2.2.1 rn hr1]
    exact ⟨vpi hr (by decide), leaf rfl rfl hs1 fr1⟩
  rw [if_neg h4]
  refine ⟨fun h5 => ?_, fun h5 => ?_⟩
  · rw [if_pos h5, skR, e0, e1]
    refine use_I (m_S_struckInRound (by omega) (sees_cok hs1.1 hg.1 (by omega)) (sees_cok hs1.1 hg.1 (by omega))) (s_F_round_131 (leaf rfl ?_ hs1 fr1))
    rw [sees_f hs1.1 (by omega), sees_f hs1.1 (by omega)]
    rfl
  rw [if_neg h5]
  refine ⟨fun h6 => ?_, fun h6 => ?_⟩
  · rw [if_pos h6]
    exact use_I (m_R_meanError hr1 hk.1) (s_F_round_140 (leaf rfl rfl hs1 fr1))
  rw [if_neg h6]
  exact use_I (m_R_badTargets hr1 hk) (s_F_round_156 (leaf rfl rfl hs1 fr1))
theorem m_reduced {u r t w : Int32} (hg : gG G) (hs : seeG C p G) : am_Call (d + 6) 69 [.ref 0, .int u, .int r, .int t, .int w] (am_w zN C p) (am_Ret zN (fP C (qReduced G u r t w, G))) := by
  apply e_F_reduced
  apply s_F_reduced_0
  refine use_I (m_S_hasRound (C10_4 hs.1 hg.1)) (s_F_reduced_9 ?_)
  rw [hrd_A hs.1 hg.1]
  refine ⟨fun h => leaf0 hs (by rw [qReduced, if_pos (bI_eq.mp h)]), fun h1 => use_I m_F_isTarget (s_F_reduced_16 ⟨fun h2 => ?_, fun h2 => leaf0 hs ?_⟩)⟩
  · rw [bI_ne] at h1 h2
    unfold qReduced
    rw [if_neg (show ¬ hrA (gcur G) u r = false by rw [h1]; decide), if_neg (show ¬ isT t = false by rw [h2]; decide)]
    obtain ⟨un, rn, rfl, hu1, hu, rfl, hr1, hr⟩ := hrA_ok h1 hg.1
    obtain ⟨tn, rfl, ht⟩ := isT_ok h2
    rw [Int32.lt_iff_toInt_lt, Int32.le_iff_toInt_le, i32_0, c_3, cn_nI (n := un) (by omega), cn_nI (n := rn) (by omega), cn_nI (n := tn) (by omega)]
    refine ⟨fun h => leaf0 hs (by rw [if_pos (by omega)]), fun a1 => ⟨fun a2 => ?_, fun h => leaf0 hs (by rw [if_pos (by omega)])⟩⟩
    rw [if_neg (by omega)]
    have e0 : rwx (nI un) (nI rn) 0 = (un * 6 + rn) * 2 := rwx_nI (f := 0) hu hr (by decide)
    have e1 : rwx (nI un) (nI rn) 1 = (un * 6 + rn) * 2 + 1 := rwx_nI (f := 1) hu hr (by decide)
    refine ⟨fun h3 => ?_, fun h3 => ?_⟩
    · rw [if_neg h3]
      refine use_reckon hs.1 hg.1 hu1 fun C1 hR hk => s_F_reduced_65 ?_
      have hs1 := seeG_agR hR hs
      have fr1 : ∀ z, 74 ≤ z → C1 z = C z := fun z hz => hR z (by omega)
      refine use_I (m_R_isUsed hr ht (hk.1.2.2.1 rn hr1)) (s_F_reduced_74 ⟨fun h4 => ?_, fun h4 => leaf (by rw [if_pos (bI_eq.mp h4)]) rfl hs1 fr1⟩)
      rw [bI_ne] at h4
      rw [if_neg (by rw [h4]; decide), ix6, cl (by omega)]
      obtain ⟨k1, k2⟩ := hk.1.2.2.2 rn tn hr1 ht h4
      have k3 := hk.2.2 rn tn hr1 ht h4
      have hv := vpi (n := rn * 6 + tn) (N := 36) (by omega) (by decide)
      rw [k1, k2, k3]
      refine ⟨fun h5 => ⟨hv, leaf (by rw [if_pos h5]) rfl hs1 fr1⟩, fun h5 => ?_⟩
      rw [if_neg h5]
      exact ⟨fun h6 => ⟨hv, leaf (by rw [if_pos h6]) rfl hs1 fr1⟩, fun h6 => ⟨hv, leaf (by rw [if_neg h6]) rfl hs1 fr1⟩⟩
    · rw [if_pos h3, e0, e1]
      refine use_I (m_S_whyNotUsed (by omega) (sees_cok hs.1 hg.1 (by omega)) (sees_cok hs.1 hg.1 (by omega))) (s_F_reduced_52 (leaf0 hs ?_))
      rw [sees_f hs.1 (by omega), sees_f hs.1 (by omega)]
  · rw [bI_ne] at h1
    rw [qReduced, if_neg (by rw [h1]; decide), if_pos (bI_eq.mp h2)]
theorem m_byAngles {u t : Int32} (hg : gG G) (hs : seeG C p G) : am_Call (d + 6) 72 [.ref 0, .int u, .int t] (am_w zN C p) (am_Ret zN (fP C (qByAngles G u t, G))) := by
  apply e_F_byAngles
  apply s_F_byAngles_0
  refine use_I m_S_hasSetUp (s_F_byAngles_8 ?_)
  rw [hsu_A hs.1 hg.1]
  refine ⟨fun h => leaf0 hs (by rw [qByAngles, if_pos (bI_eq.mp h)]), fun h1 => use_I m_F_isTarget (s_F_byAngles_15 ⟨fun h2 => ?_, fun h2 => leaf0 hs ?_⟩)⟩
  · rw [bI_ne] at h1 h2
    unfold qByAngles
    rw [if_neg (show ¬ hsA (gcur G) u = false by rw [h1]; decide), if_neg (show ¬ isT t = false by rw [h2]; decide)]
    obtain ⟨un, rfl, hu1⟩ := hsA_ok h1 hg.1
    have h4 := hg.1.1
    obtain ⟨tn, rfl, ht⟩ := isT_ok h2
    rw [cn_nI (n := un) (by omega), cn_nI (n := tn) (by omega)]
    refine use_reckon hs.1 hg.1 hu1 fun C1 hR hk => s_F_byAngles_33 ?_
    have hs1 := seeG_agR hR hs
    have fr1 : ∀ z, 74 ≤ z → C1 z = C z := fun z hz => hR z (by omega)
    refine use_I (m_R_hasDirection ht (hk.2.1 tn ht)) (s_F_byAngles_41 ⟨fun h => ?_, fun h => leaf ?_ rfl hs1 fr1⟩)
    · rw [bI_ne] at h
      obtain ⟨x, hx⟩ := Option.isSome_iff_exists.mp h
      refine use_I (m_R_sumOfAngles ht hk.2.1 (dir_0 hx) hx) (s_F_byAngles_55 (leaf ?_ rfl hs1 fr1))
      simp only [dirA, hx]
    · rw [bI_eq, Option.isSome_eq_false_iff, Option.isNone_iff_eq_none] at h
      simp only [dirA, h]
  · rw [bI_ne] at h1
    rw [qByAngles, if_neg (by rw [h1]; decide), if_pos (bI_eq.mp h2)]
end
