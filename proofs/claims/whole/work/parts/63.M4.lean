/-! the model: used, means, corrections -/
def sn (x : Int32) : Int32 := if x = 0 then 0 else if x = 1 then 259 else if x = 2 then 500 else if x = 3 then 707 else if x = 4 then 866 else if x = 5 then 966 else 1000
def snO (x : Int32) : Int32 := if x ≤ 12 then sn (if x - x / 12 * 12 ≤ 6 then x - x / 12 * 12 else 12 - (x - x / 12 * 12)) else -(sn (if x - x / 12 * 12 ≤ 6 then x - x / 12 * 12 else 12 - (x - x / 12 * 12)))
theorem snO_ok : ∀ k, k < 24 → snO (nI k) = am_sine k := by decide +kernel
section
variable {d : Nat} {C : Nat → Nat → Int32} {p : Nat → Option Nat} {A : aS} {u r : Nat}
theorem m_M_sine {x : Int32} : cI (d + 1) 146 [.int x] C p (sn x) C p := by
  apply e_M_sine
  apply s_M_sine_0
  refine ⟨fun h => ret_I' (by rw [sn, if_pos h]) rfl rfl, fun h0 => ⟨fun h => ret_I' (by rw [sn, if_neg h0, if_pos h]) rfl rfl, fun h1 => ⟨fun h => ret_I' (by rw [sn, if_neg h0, if_neg h1, if_pos h]) rfl rfl, fun h2 => ⟨fun h => ret_I' (by rw [sn, if_neg h0, if_neg h1, if_neg h2, if_pos h]) rfl rfl, fun h3 => ⟨fun h => ret_I' (by rw [sn, if_neg h0, if_neg h1, if_neg h2, if_neg h3, if_pos h]) rfl rfl, fun h4 => ⟨fun h => ret_I' (by rw [sn, if_neg h0, if_neg h1, if_neg h2, if_neg h3, if_neg h4, if_pos h]) rfl rfl, fun h5 => ret_I' (by rw [sn, if_neg h0, if_neg h1, if_neg h2, if_neg h3, if_neg h4, if_neg h5]) rfl rfl⟩⟩⟩⟩⟩⟩
theorem m_M_sineOf {k : Nat} (hk : k < 24) : cI (d + 2) 147 [.int (nI k)] C p (am_sine k) C p := by
  rw [← snO_ok k hk]
  generalize nI k = x
  apply e_M_sineOf
  apply s_M_sineOf_0
  unfold snO
  refine ⟨by decide, fun h => ?_, fun h => ?_⟩
  · rw [if_pos h]
    exact use_I m_M_sine (s_M_sineOf_22 ⟨fun h2 => ret_I' (by rw [if_pos h2]) rfl rfl, fun h2 => ret_I' (by rw [if_neg h2]) rfl rfl⟩)
  · rw [if_neg h]
    exact use_I m_M_sine (s_M_sineOf_22 ⟨fun h2 => ret_I' (by rw [if_pos h2]) rfl rfl, fun h2 => ret_I' (by rw [if_neg h2]) rfl rfl⟩)
theorem sect' {x : Int32} : ∃ k, fmd x / 54000 = nI k ∧ k < 24 := by
  have h1 := fmd_lo x
  have h2 := fmd_hi x
  have h3 : (fmd x / 54000).toInt = (fmd x).toInt.tdiv 54000 := I_div (y := 54000) (by decide)
  have h5 : (fmd x).toInt.tdiv 54000 = (fmd x).toInt / 54000 := Int.tdiv_eq_ediv_of_nonneg h1
  exact lt_in (x := fmd x / 54000) (n := 24) (by omega) (by omega) (by decide)
theorem m_M_correction {t : Nat} {x : Int32} (hs : seesM (C 75) A) (hg : good A) (hu : u < A.1) (ht : t < 6) : cI (d + 3) 148 [.ref 74, .int (nI u), .int (nI t), .int x] C p (crn A u t x) C p := by
  have h4 := hg.1
  obtain ⟨-, o1, o2⟩ := hs.2.2.2.1 u hu
  apply e_M_correction
  apply s_M_correction_0
  refine use_I (m_M_of (b := 2)) (s_M_correction_11 ?_)
  rw [cl (by omega), o2]
  refine ⟨vpi (by omega) (by decide), use_I m_M_full (s_M_correction_22 ⟨by decide, ?_⟩)⟩
  have ec : crn A u t x = (((206265 * (aO A u).toInt64) * (am_sine (cn (fmd (54000 * aQ A u - x + 27000) / 54000))).toInt64) / (1000000 * (aD A t).toInt64)).toInt32 := by
    unfold crn
    rw [Int32.mul_comm (aQ A u), Int64.mul_comm (aD A t).toInt64, Int64.mul_comm _ 206265, ← Int64.mul_assoc]
  rw [ec]
  obtain ⟨k, hk, hk2⟩ := sect' (x := 54000 * aQ A u - x + 27000)
  rw [hk, cn_nI (by omega)]
  refine use_I (m_M_sineOf hk2) (s_M_correction_28 (use_I (m_M_of (b := 1)) (s_M_correction_42 ?_)))
  rw [cl (by omega), o1, show (2 : Int32) = nI 2 from rfl, nI_add, cl (by omega), hs.2.2.1 t ht]
  refine ⟨vpi (by omega) (by decide), vpi (by omega) (by decide), ?_, ret_I' rfl rfl rfl⟩
  rw [Int64.mul_comm]
  exact den (hg.2.2.1 t ht)
theorem m_M_centred {t : Nat} {x : Int32} (hs : seesM (C 75) A) (hg : good A) (hu : u < A.1) (ht : t < 6) : cI (d + 4) 149 [.ref 74, .int (nI u), .int (nI t), .int x] C p (cdr A u t x) C p :=
  e_M_centred (s_M_centred_0 (use_I (m_M_correction hs hg hu ht) (s_M_centred_8 (use_I (m_M_correction (t := 0) hs hg hu (by decide)) (s_M_centred_16 (use_I m_M_full (s_M_centred_20 (ret_I' rfl rfl rfl))))))))
theorem m_M_used (hs : seesM (C 75) A) (hg : good A) (hu : u < A.1) (hr : r < aR A u) : cI (d + 5) 142 [.ref 74, .int (nI u), .int (nI r)] C p (bs (us (GA A u) r) 6) C p := by
  have loop : ∀ m k, k + m = 6 → am_At (d + 5) 142 none (am_Ret (am_eI (bs (us (GA A u) r) 6) C p)) 5 [some (.ref 74), some (.int (nI u)), some (.int (nI r)), some (.int (bs (us (GA A u) r) k)), some (.int (nI k))] [] (am_w C p) (0, 0) := by
    intro m
    induction m with
    | zero =>
      intro k hk
      apply s_M_used_5
      exact ⟨fun _ => ret_I' (by rw [← hk]; rfl) rfl rfl, fun h => absurd ((le5 (a := 6) (by omega) (by omega)).mpr (by omega)) h⟩
    | succ m ih =>
      intro k hk
      apply s_M_used_5
      refine ⟨fun h => absurd ((le5 (a := 6) (by omega) (by omega)).mp h) (by omega), fun _ => use_I (m_M_why (d := d) hs hg hu hr) (s_M_used_21 ?_)⟩
      have ih' := ih (k + 1) (by omega)
      rw [bs_s _ k] at ih'
      rw [nI_1, or0, ← us_why]
      refine ⟨fun h => ?_, fun h => ?_⟩
      · rw [if_neg h] at ih'
        exact ih'
      · rw [if_pos h] at ih'
        exact ih'
  exact e_M_used (s_M_used_0 (loop 6 0 (by omega)))
theorem m_M_meanSight (hs : seesM (C 75) A) (hg : good A) (hu : u < A.1) (hr : r < aR A u) : cI (d + 7) 143 [.ref 74, .int (nI u), .int (nI r)] C p (if (msd (GA A u) r 6).1 = 0 then -2000005 else fdv (msd (GA A u) r 6).2 (nI (msd (GA A u) r 6).1)) C p := by
  have hc : ∀ k, (msd (GA A u) r k).1 ≤ k := fun k => by rw [msd_cb]; exact cb_le _ k
  have loop : ∀ m k, k + m = 6 → am_At (d + 7) 143 none (am_Ret (am_eI (if (msd (GA A u) r 6).1 = 0 then -2000005 else fdv (msd (GA A u) r 6).2 (nI (msd (GA A u) r 6).1)) C p)) 8 [some (.ref 74), some (.int (nI u)), some (.int (nI r)), some (.int (msd (GA A u) r k).2), some (.int (nI (msd (GA A u) r k).1)), some (.int (nI k))] [] (am_w C p) (0, 0) := by
    intro m
    induction m with
    | zero =>
      intro k hk
      have hk' : k = 6 := by omega
      subst hk'
      have h6 := hc 6
      apply s_M_meanSight_8
      rw [nI_eq0 (by omega)]
      refine ⟨fun _ => ⟨fun h => ?_, fun h => ?_⟩, fun h => absurd (by decide) h⟩
      · rw [if_neg h]
        exact use_I (m_M_divided (by rw [nI_toI (by omega)]; omega)) (s_M_meanSight_62 (ret_I' rfl rfl rfl))
      · rw [if_pos h]
        exact s_M_meanSight_62 (ret_I' rfl rfl rfl)
    | succ m ih =>
      intro k hk
      apply s_M_meanSight_8
      refine ⟨fun h => absurd ((le5 (a := 6) (by omega) (by omega)).mp h) (by omega), fun _ => use_I (m_M_why (d := d + 2) hs hg hu hr) (s_M_meanSight_23 ?_)⟩
      have ih' := ih (k + 1) (by omega)
      rw [msd_s _ _ k] at ih'
      rw [nI_1, ← us_why]
      refine ⟨fun h => ?_, fun h => ?_⟩
      · rw [if_neg h] at ih'
        exact ih'
      · rw [if_pos h] at ih'
        obtain ⟨⟨a, b, ha, hb⟩, -⟩ := us_pl h
        refine use_I (m_M_sight (d := d) hs hg hu hr ha hb) (s_M_meanSight_35 ?_)
        rw [nI_1, nI_1]
        exact ih'
  exact e_M_meanSight (s_M_meanSight_0 (loop 6 0 (by omega)))
theorem m_M_mostLeft {t : Nat} (hs : seesM (C 75) A) (hg : good A) (hu : u < A.1) : cI (d + 10) 150 [.ref 74, .int (nI u), .int (nI t)] C p (mls (GA A u) (aR A u) t (aR A u)) C p := by
  have h4 := hg.1
  have h6 := (hg.2.2.2.1 u (by omega)).1
  have loop : ∀ m k o5, k + m = aR A u → am_At (d + 10) 150 none (am_Ret (am_eI (mls (GA A u) (aR A u) t (aR A u)) C p)) 5 [some (.ref 74), some (.int (nI u)), some (.int (nI t)), some (.int (mls (GA A u) (aR A u) t k)), some (.int (nI k)), o5] [] (am_w C p) (0, 0) := by
    intro m
    induction m with
    | zero =>
      intro k o5 hk
      apply s_M_mostLeft_5
      refine use_I (m_M_of (b := 0)) (s_M_mostLeft_16 ?_)
      rw [cl (by omega), Nat.add_zero, (hs.2.2.2.1 u hu).1]
      exact ⟨vpi (by omega) (by decide), fun _ => ret_I' (by rw [show k = aR A u by omega]) rfl rfl, fun h => absurd ((le5 (by omega) (by omega)).mpr (by omega)) h⟩
    | succ m ih =>
      intro k o5 hk
      have hkR : k < aR A u := by omega
      apply s_M_mostLeft_5
      refine use_I (m_M_of (b := 0)) (s_M_mostLeft_16 ?_)
      rw [cl (by omega), Nat.add_zero, (hs.2.2.2.1 u hu).1]
      refine ⟨vpi (by omega) (by decide), fun h => absurd ((le5 (by omega) (by omega)).mp h) (by omega), fun _ => use_I (m_M_why hs hg hu hkR) (s_M_mostLeft_28 ?_)⟩
      have fin : ∀ o5, am_At (d + 10) 150 none (am_Ret (am_eI (mls (GA A u) (aR A u) t (aR A u)) C p)) 46 [some (.ref 74), some (.int (nI u)), some (.int (nI t)), some (.int (mls (GA A u) (aR A u) t k)), some (.int (nI k)), o5] [.int (lws (GA A u) (aR A u) k t)] (am_w C p) (0, 0) := by
        intro o5
        have ih' := ih (k + 1)
        rw [mls_s _ _ _ k] at ih'
        apply s_M_mostLeft_46
        rw [nI_1]
        refine ⟨fun h => ?_, fun h => ?_⟩
        · rw [if_neg (Int32.not_lt.mpr h)] at ih'
          exact ih' _ (by omega)
        · rw [if_pos (Int32.not_le.mp h)] at ih'
          exact ih' _ (by omega)
      rw [← us_why]
      refine ⟨fun h => ?_, fun h => use_I (m_M_left (d := d) hs hg hu hkR h) (s_M_mostLeft_39 (use_I m_M_size (s_M_mostLeft_42 ?_)))⟩
      · have e : lws (GA A u) (aR A u) k t = 0 := by rw [lws, if_neg h]
        have := fin o5
        rw [e] at this
        exact this
      · have e : lws (GA A u) (aR A u) k t = av (lef (GA A u) (aR A u) k t) := by rw [lws, if_pos h]
        rw [← e]
        exact fin o5
  exact e_M_mostLeft (s_M_mostLeft_0 (loop (aR A u) 0 _ (by omega)))
theorem m_M_struckOf (hs : seesM (C 75) A) (hg : good A) (hu : u < A.1) (hr : r < aR A u) : cI (d + 3) 122 [.ref 74, .int (nI u), .int (nI r)] C p (nI (skn (aF A (rwn u r 0)) + skn (aF A (rwn u r 1)))) C p := by
  have h4 := hg.1
  have h6 := (hg.2.2.2.1 u (by omega)).1
  have b0 := fbs_lt (u := u) (r := r) (f := 0) (by omega) (by omega) (by decide)
  have b1 := fbs_lt (u := u) (r := r) (f := 1) (by omega) (by omega) (by decide)
  have m0 := hs.2.2.2.2 u r 0 hu hr (by decide)
  have m1 := hs.2.2.2.2 u r 1 hu hr (by decide)
  have k0 := hg.2.2.2.2.1 (rwn u r 0) (by unfold rwn; omega)
  have k1 := hg.2.2.2.2.1 (rwn u r 1) (by unfold rwn; omega)
  exact e_M_struckOf (s_M_struckOf_0 (use_I (m_M_faceAt (f := 0)) (s_M_struckOf_7 (use_I (m_M_struckIn b0 m0 k0) (s_M_struckOf_10 (use_I (m_M_faceAt (f := 1)) (s_M_struckOf_17 (use_I (m_M_struckIn b1 m1 k1) (s_M_struckOf_20 (ret_I' (nI_add _ _) rfl rfl)))))))))) 
theorem m_M_canPoint {b : Nat} {f : aFace} {t : Int32} (hb : b + 21 ≤ 1028) (hm : mrow (C 75) b f) (hf : fok f) : cI (d + 3) 118 [.ref 74, .int (nI b), .int t] C p (bI (can f t)) C p := by
  apply e_M_canPoint
  apply s_M_canPoint_0
  refine use_I (m_M_placeOf hb hm hf) (s_M_canPoint_6 ?_)
  rw [plc_m5 hf.1, nI_1, cl (by omega)]
  refine ⟨fun h => ⟨Or.inl rfl, ret_I' ?_ rfl rfl⟩, fun h => ⟨vpi (by omega) (by decide), fun h2 => ⟨Or.inl rfl, ret_I' ?_ rfl rfl⟩, fun h2 => ⟨Or.inr rfl, ret_I' ?_ rfl rfl⟩⟩⟩
  · rw [can, decide_eq_false (fun hh => h hh.2)]; rfl
  · rw [can, decide_eq_false (fun hh => h2 (hm.2.2.2.mp hh.1))]; rfl
  · rw [can, decide_eq_true ⟨hm.2.2.2.mpr h2, h⟩]; rfl
theorem m_M_isFirstOfClosed {b : Nat} {f : aFace} {t : Int32} (hb : b + 21 ≤ 1028) (hm : mrow (C 75) b f) (hf : fok f) : cI (d + 3) 124 [.ref 74, .int (nI b), .int t] C p (bI (blk f t)) C p := by
  have h6 := hf.1
  apply e_M_isFirstOfClosed
  apply s_M_isFirstOfClosed_0
  rw [nI_1, cl (by omega)]
  refine ⟨vpi (by omega) (by decide), fun h => ⟨Or.inl rfl, ret_I' ?_ rfl rfl⟩, fun h => use_I (m_M_placeOf hb hm hf) (s_M_isFirstOfClosed_18 ⟨fun h2 => ⟨Or.inl rfl, ret_I' ?_ rfl rfl⟩, fun h2 => ⟨Or.inr rfl, ret_I' ?_ rfl rfl⟩⟩)⟩
  · have h0 := hm.2.2.2.mpr (hm.2.1.resolve_right h)
    rw [blk, decide_eq_false (fun hh => hh.2 h0)]; rfl
  · rw [blk, decide_eq_false (fun hh => h2 (by rw [hh.1]; rfl))]; rfl
  · have hne : f.2.2.2.2 ≠ -1 := fun e => by
      have := hm.2.2.2.mp e
      rw [h] at this
      exact absurd this (by decide)
    cases hp : plc f t with
    | none => rw [hp] at h2; exact absurd h2 (by decide)
    | some k =>
      rw [hp] at h2
      have hk := (plc_lt hp).1
      have hk0 := (nI_eq0 (n := k) (by omega)).mp h2
      rw [blk, decide_eq_true ⟨by rw [hp, hk0], hne⟩]; rfl
end
