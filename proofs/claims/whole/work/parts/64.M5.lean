/-! the model: queries -/
theorem fmd5 {x : Option Int32} (h : ∀ y, x = some y → y ≠ -2000005) : oD (-2000005) x = -2000005 ↔ x = none := by
  cases x with
  | none => simp [oD]
  | some y => simp only [oD, reduceCtorEq, iff_false]; exact h y rfl
theorem dirA_5 {A : aS} {u t : Nat} : oD (-2000005) (dirA A u t) = -2000005 ↔ dirA A u t = none := by
  refine fmd5 (fun y hy => ?_)
  by_cases hc : (dst (GA A u) t (aR A u)).1 = 0
  · rw [dirA, dirO_none hc] at hy; cases hy
  · rw [dirA, dirO_some hc] at hy
    cases hy
    exact (fmd_m1 _).2
theorem in3 {x : Int32} {hi : Int32} {n : Int} (h : hi.toInt = n) : (¬ x < 0 ∧ ¬ hi < x) ↔ decide (0 ≤ x.toInt ∧ x.toInt ≤ n) = true := by
  rw [decide_eq_true_eq, Int32.lt_iff_toInt_lt, Int32.lt_iff_toInt_lt, i32_0, h]
  omega
theorem inF {x : Int32} : (¬ x < 0 ∧ ¬ 1 < x) ↔ isFc x = true := by
  rw [isFc, decide_eq_true_eq, Int32.lt_iff_toInt_lt, Int32.lt_iff_toInt_lt, i32_0, c_1]
  omega
theorem inR {x : Int32} : (¬ x < 0 ∧ ¬ 1295999 < x) ↔ isRd x = true := by
  have c : (1295999 : Int32).toInt = 1295999 := by decide
  rw [isRd, decide_eq_true_eq, Int32.lt_iff_toInt_lt, Int32.lt_iff_toInt_lt, i32_0, c]
  omega
section
variable {d : Nat} {C : Nat → Nat → Int32} {p : Nat → Option Nat} {G : aGl}
theorem M_centring {u x : Int32} (hs : seesM (C 75) (gcur G)) (hg : good (gcur G)) : cI (d + 3) 157 [.ref 74, .int u, .int x] C p (qCentring G u x) C p := by
  apply e_M_centring
  apply s_M_centring_0
  refine use_I (m_M_isSetUp hs hg) (s_M_centring_5 ⟨fun h1 => ?_, fun h1 => ret_I' (by rw [qCentring, if_pos (bI_eq.mp h1)]) rfl rfl⟩)
  rw [bI_ne] at h1
  obtain ⟨n, rfl, hn⟩ := hsA_ok h1 hg
  have h4 := hg.1
  obtain ⟨-, o1, o2⟩ := hs.2.2.2.1 n hn
  refine ⟨fun h => use_I (m_M_of (b := 1)) (s_M_centring_30 ?_), fun h => use_I (m_M_of (b := 2)) (s_M_centring_30 ?_)⟩
  · rw [cl (by omega), o1]
    exact ⟨vpi (by omega) (by decide), ret_I' (by rw [qCentring, if_neg (by rw [h1]; decide), if_pos h, cn_nI (by omega)]) rfl rfl⟩
  · rw [cl (by omega), o2]
    exact ⟨vpi (by omega) (by decide), ret_I' (by rw [qCentring, if_neg (by rw [h1]; decide), if_neg h, cn_nI (by omega)]) rfl rfl⟩
theorem M_byAngles {u t : Int32} (hs : seesM (C 75) (gcur G)) (hg : good (gcur G)) : cI (d + 9) 153 [.ref 74, .int u, .int t] C p (qByAngles G u t) C p := by
  apply e_M_byAngles
  apply s_M_byAngles_0
  refine use_I (m_M_isSetUp hs hg) (s_M_byAngles_5 ⟨fun h => ret_I' (by rw [qByAngles, if_pos (bI_eq.mp h)]) rfl rfl, fun h1 => use_I m_M_isTarget (s_M_byAngles_12 ⟨fun h => ret_I' ?_ rfl rfl, fun h2 => ?_⟩)⟩)
  · rw [bI_ne] at h1
    rw [qByAngles, if_neg (by rw [h1]; decide), if_pos (bI_eq.mp h)]
  · rw [bI_ne] at h1 h2
    obtain ⟨n, rfl, hn⟩ := hsA_ok h1 hg
    obtain ⟨tn, rfl, ht⟩ := isT_ok h2
    have h4 := hg.1
    refine use_I (m_M_directed (d := d) hs hg hn) (s_M_byAngles_21 (ret_I' ?_ rfl rfl))
    rw [qByAngles, if_neg (by rw [h1]; decide), if_neg (by rw [h2]; decide), cn_nI (by omega), cn_nI (by omega)]
    cases dirA (gcur G) n tn <;> rfl
theorem M_angle {u a b w : Int32} (hs : seesM (C 75) (gcur G)) (hg : good (gcur G)) : cI (d + 9) 152 [.ref 74, .int u, .int a, .int b, .int w] C p (qAngle G u a b w) C p := by
  apply e_M_angle
  apply s_M_angle_0
  refine use_I (m_M_isSetUp hs hg) (s_M_angle_5 ⟨fun h => ret_I' (by rw [qAngle, if_pos (bI_eq.mp h)]) rfl rfl, fun h1 => use_I m_M_isTarget (s_M_angle_12 ⟨fun h => ret_I' ?_ rfl rfl, fun h2 => use_I m_M_isTarget (s_M_angle_19 ⟨fun h3 => ?_, fun h => ret_I' ?_ rfl rfl⟩)⟩)⟩)
  · rw [bI_ne] at h1
    rw [qAngle, if_neg (by rw [h1]; decide), if_pos (bI_eq.mp h)]
  · rw [bI_ne] at h1 h2 h3
    unfold qAngle
    rw [if_neg (show ¬ hsA (gcur G) u = false by rw [h1]; decide), if_neg (show ¬ isT a = false by rw [h2]; decide), if_neg (show ¬ isT b = false by rw [h3]; decide)]
    obtain ⟨n, rfl, hn⟩ := hsA_ok h1 hg
    obtain ⟨an, rfl, ha⟩ := isT_ok h2
    obtain ⟨bn, rfl, hb⟩ := isT_ok h3
    have h4 := hg.1
    rw [cn_nI (n := n) (by omega), cn_nI (n := an) (by omega), cn_nI (n := bn) (by omega)]
    refine use_I (m_M_directed (d := d) hs hg hn) (s_M_angle_31 (use_I (m_M_directed (d := d) hs hg hn) (s_M_angle_39 ?_)))
    rw [dirA_5, dirA_5]
    cases hx : dirA (gcur G) n an with
    | none => exact ⟨fun _ => ret_I' rfl rfl rfl, fun h => absurd rfl h⟩
    | some x =>
      cases hy : dirA (gcur G) n bn with
      | none => exact ⟨fun h => (by cases h), fun _ => ⟨fun h => absurd rfl h, fun _ => ret_I' rfl rfl rfl⟩⟩
      | some y =>
        simp only [oD]
        refine ⟨fun h => (by cases h), fun _ => ⟨fun _ => ⟨fun h => ?_, fun h => ?_⟩, fun h => (by cases h)⟩⟩
        · rw [if_pos h]
          exact use_I m_M_full (s_M_angle_91 (ret_I' rfl rfl rfl))
        · rw [if_neg h]
          exact use_I (m_M_centred hs hg hn hb) (s_M_angle_71 (use_I (m_M_centred hs hg hn ha) (s_M_angle_79 (use_I m_M_full (s_M_angle_91 (ret_I' rfl rfl rfl))))))
  · rw [bI_ne] at h1 h2
    rw [qAngle, if_neg (by rw [h1]; decide), if_neg (by rw [h2]; decide), if_pos (bI_eq.mp h)]
theorem M_direction {u t w : Int32} (hs : seesM (C 75) (gcur G)) (hg : good (gcur G)) : cI (d + 11) 151 [.ref 74, .int u, .int t, .int w] C p (qDirection G u t w) C p := by
  have c4 : (4 : Int32).toInt = 4 := by decide
  apply e_M_direction
  apply s_M_direction_0
  refine use_I (m_M_isSetUp hs hg) (s_M_direction_5 ⟨fun h => ret_I' (by rw [qDirection, if_pos (bI_eq.mp h)]) rfl rfl, fun h1 => use_I m_M_isTarget (s_M_direction_12 ⟨fun h2 => use_I (m_M_in (in3 c4)) (s_M_direction_24 ?_), fun h => ret_I' ?_ rfl rfl⟩)⟩)
  · rw [bI_ne] at h1 h2
    unfold qDirection
    rw [if_neg (show ¬ hsA (gcur G) u = false by rw [h1]; decide), if_neg (show ¬ isT t = false by rw [h2]; decide)]
    obtain ⟨n, rfl, hn⟩ := hsA_ok h1 hg
    obtain ⟨tn, rfl, ht⟩ := isT_ok h2
    have h4 := hg.1
    rw [cn_nI (n := n) (by omega), cn_nI (n := tn) (by omega), bI_ne, bI_eq, decide_eq_true_eq, decide_eq_false_iff_not]
    refine ⟨fun h => ?_, fun h => ret_I' (by rw [if_pos h]) rfl rfl⟩
    rw [if_neg (Classical.not_not.mpr h)]
    refine ⟨fun h3 => ?_, fun h3 => ?_⟩
    · rw [if_neg h3]
      refine use_I (m_M_directed (d := d + 2) hs hg hn) (s_M_direction_48 ?_)
      rw [dirA_5]
      cases hx : dirA (gcur G) n tn with
      | none => exact ⟨fun _ => s_M_direction_104 (ret_I' rfl rfl rfl), fun h => absurd rfl h⟩
      | some x =>
        simp only [oD]
        refine ⟨fun h => (by cases h), fun _ => ⟨fun h0 => ⟨fun h1 => ⟨fun h2 => ?_, fun h2 => ?_⟩, fun h1 => ?_⟩, fun h0 => ?_⟩⟩
        · rw [if_neg h0, if_neg h1, if_neg h2]
          exact use_I (m_M_mostLeft (d := d) hs hg hn) (s_M_direction_104 (ret_I' rfl rfl rfl))
        · rw [if_neg h0, if_neg h1, if_pos h2]
          exact use_I (m_M_centred hs hg hn ht) (s_M_direction_95 (s_M_direction_104 (ret_I' rfl rfl rfl)))
        · rw [if_neg h0, if_pos h1]
          exact use_I (m_M_correction hs hg hn ht) (s_M_direction_79 (s_M_direction_104 (ret_I' rfl rfl rfl)))
        · rw [if_pos h0]
          exact s_M_direction_104 (ret_I' rfl rfl rfl)
    · rw [if_pos h3]
      exact use_I (m_M_roundsOf (d := d + 5) hs hg hn) (s_M_direction_41 (ret_I' rfl rfl rfl))
  · rw [bI_ne] at h1
    rw [qDirection, if_neg (by rw [h1]; decide), if_pos (bI_eq.mp h)]
theorem M_reduced {u r t w : Int32} (hs : seesM (C 75) (gcur G)) (hg : good (gcur G)) : cI (d + 10) 145 [.ref 74, .int u, .int r, .int t, .int w] C p (qReduced G u r t w) C p := by
  apply e_M_reduced
  apply s_M_reduced_0
  refine use_I (m_M_isRound hs hg) (s_M_reduced_6 ⟨fun h => ret_I' (by rw [qReduced, if_pos (bI_eq.mp h)]) rfl rfl, fun h1 => use_I m_M_isTarget (s_M_reduced_13 ⟨fun h2 => use_I (m_M_in (in3 c_3)) (s_M_reduced_26 ?_), fun h => ret_I' ?_ rfl rfl⟩)⟩)
  · rw [bI_ne] at h1 h2
    unfold qReduced
    rw [if_neg (show ¬ hrA (gcur G) u r = false by rw [h1]; decide), if_neg (show ¬ isT t = false by rw [h2]; decide)]
    obtain ⟨un, rn, rfl, hu1, hu, rfl, hr1, hr⟩ := hrA_ok h1 hg
    obtain ⟨tn, rfl, ht⟩ := isT_ok h2
    have e0 : rwx (nI un) (nI rn) 0 = rwn un rn 0 := rwx_nI (f := 0) hu hr (by decide)
    have e1 : rwx (nI un) (nI rn) 1 = rwn un rn 1 := rwx_nI (f := 1) hu hr (by decide)
    have hw := why_le (aF (gcur G) (rwn un rn 0)) (aF (gcur G) (rwn un rn 1)) (nI tn)
    rw [cn_nI (n := un) (by omega), cn_nI (n := rn) (by omega), cn_nI (n := tn) (by omega), bI_ne, bI_eq, decide_eq_true_eq, decide_eq_false_iff_not, e0, e1]
    refine ⟨fun h => ?_, fun h => ret_I' (by rw [if_pos h]) rfl rfl⟩
    rw [if_neg (Classical.not_not.mpr h)]
    refine use_I (m_M_why hs hg hu1 hr1) (s_M_reduced_39 ?_)
    rw [nI_le0 (by omega), ← nI_eq0 (by omega), ← us_why]
    refine ⟨fun h3 => ⟨fun h4 => ?_, fun h4 => s_M_reduced_100 (ret_I' ?_ rfl rfl)⟩, fun h3 => s_M_reduced_100 (ret_I' (by rw [if_pos h3]) rfl rfl)⟩
    · rw [if_neg h3, if_neg (by rw [h4]; decide)]
      obtain ⟨⟨a, b, ha, hb⟩, -⟩ := us_pl h4
      refine ⟨fun h0 => ⟨fun h1 => ?_, fun h1 => ?_⟩, fun h0 => ?_⟩
      · rw [if_neg h0, if_neg h1]
        exact use_I (m_M_sight (d := d + 3) hs hg hu1 hr1 ha hb) (s_M_reduced_100 (ret_I' rfl rfl rfl))
      · rw [if_neg h0, if_pos h1]
        exact use_I (m_M_left (d := d) hs hg hu1 hr1 h4) (s_M_reduced_90 (s_M_reduced_100 (ret_I' rfl rfl rfl)))
      · rw [if_pos h0]
        exact use_I (m_M_reducedIn (d := d + 2) hs hg hu1 hr1 h4) (s_M_reduced_74 (s_M_reduced_100 (ret_I' rfl rfl rfl)))
    · rw [if_neg h3, if_pos (bt h4)]
  · rw [bI_ne] at h1
    rw [qReduced, if_neg (by rw [h1]; decide), if_pos (bI_eq.mp h)]
theorem M_pointing {u r f k w : Int32} (hs : seesM (C 75) (gcur G)) (hg : good (gcur G)) : cI (d + 5) 141 [.ref 74, .int u, .int r, .int f, .int k, .int w] C p (qPointing G u r f k w) C p := by
  apply e_M_pointing
  apply s_M_pointing_0
  refine use_I (m_M_isRound hs hg) (s_M_pointing_6 ⟨fun h1 => use_I (m_M_in inF) (s_M_pointing_18 ⟨fun h => ret_I' ?_ rfl rfl, fun h3 => ?_⟩), fun h => ret_I' (by rw [qPointing, if_pos (bI_eq.mp h)]) rfl rfl⟩)
  · rw [bI_ne] at h1
    rw [qPointing, if_neg (by rw [h1]; decide), if_pos (bI_eq.mp h)]
  rw [bI_ne] at h1 h3
  unfold qPointing
  rw [if_neg (show ¬ hrA (gcur G) u r = false by rw [h1]; decide), if_neg (show ¬ isFc f = false by rw [h3]; decide)]
  obtain ⟨un, rn, rfl, hu1, hu, rfl, hr1, hr⟩ := hrA_ok h1 hg
  obtain ⟨fn, rfl, hf⟩ := isFc_ok h3
  have e0 : rwx (nI un) (nI rn) (nI fn) = rwn un rn fn := rwx_nI hu hr hf
  have mr := hs.2.2.2.2 un rn fn hu1 hr1 hf
  have fk := hg.2.2.2.2.1 (rwn un rn fn) (by unfold rwn; omega)
  have hb := fbs_lt hu hr hf
  have h6 := fk.1
  rw [e0, Int32.lt_iff_toInt_lt, i32_0]
  generalize aF (gcur G) (rwn un rn fn) = g at *
  refine ⟨fun h => ret_I' (by rw [if_pos (by omega)]) rfl rfl, fun a1 => use_I (m_M_in (in3 c_3)) (s_M_pointing_33 ⟨fun a2 => ?_, fun h => ret_I' ?_ rfl rfl⟩)⟩
  · rw [bI_ne, decide_eq_true_eq] at a2
    rw [if_neg (by omega)]
    refine use_I m_M_faceAt (s_M_pointing_45 ?_)
    generalize fbs un rn fn = B at *
    rw [nI_p0, cl (by omega), mr.1, Int32.lt_iff_toInt_lt, nI_toI (by omega)]
    refine ⟨vpi (by omega) (by decide), fun h => ?_, fun h => s_M_pointing_97 (ret_I' (by rw [if_pos h]) rfl rfl)⟩
    rw [if_neg (Classical.not_not.mpr h)]
    obtain ⟨kn, rfl, hk⟩ := lt_in (by omega) h (by omega)
    rw [cn_nI (by omega)]
    obtain ⟨wn, rfl, hw⟩ := lt_in (x := w) (n := 4) a2.1 (by omega) (by decide)
    obtain ⟨k1, k2, k3⟩ := mr_tg mr hk
    refine ⟨fun h3 => ?_, fun h3 => ?_⟩
    · have := (le5 (a := 3) (b := wn) (by omega) (by omega)).mp h3
      have hw3 : wn = 3 := by omega
      subst hw3
      rw [if_neg (by decide), if_neg (by decide), if_neg (by decide)]
      exact use_I (m_M_corrected hb mr fk hk) (s_M_pointing_97 (ret_I' rfl rfl rfl))
    · have hw3 : wn < 3 := by
        by_cases h4 : 3 ≤ wn
        · exact absurd ((le5 (a := 3) (b := wn) (by omega) (by omega)).mpr h4) h3
        · omega
      refine use_I m_M_placed (s_M_pointing_85 ?_)
      rw [cl (by omega)]
      refine ⟨vpi (by omega) (by decide), s_M_pointing_97 (ret_I' ?_ rfl rfl)⟩
      obtain rfl | rfl | rfl : wn = 0 ∨ wn = 1 ∨ wn = 2 := by omega
      · rw [if_pos (show nI 0 = 0 from rfl)]
        exact k1
      · rw [if_neg (by decide), if_pos (show nI 1 = 1 from rfl), show B + 3 + 3 * kn + 1 = B + 4 + 3 * kn by omega]
        exact k2
      · rw [if_neg (by decide), if_neg (by decide), if_pos (show nI 2 = 2 from rfl), show B + 3 + 3 * kn + 2 = B + 5 + 3 * kn by omega, k3]
        rcases fk.2.2.1 kn hk with e | e <;> rw [e] <;> rfl
  · rw [bI_eq, decide_eq_false_iff_not] at h
    rw [if_pos (by omega)]
end
