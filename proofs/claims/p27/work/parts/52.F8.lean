variable {zN : Nat}
section
variable {d : Nat} {C : Nat → Nat → Int32} {p : Nat → Option Nat} {G : aGl} {A : aS}
theorem m_direction {u t w : Int32} (hg : gG G) (hs : seeG C p G) : am_Call (d + 6) 70 [.ref 0, .int u, .int t, .int w] (am_w zN C p) (am_Ret zN (fP C (qDirection G u t w, G))) := by
  have c4 : (4 : Int32).toInt = 4 := by decide
  apply e_F_direction
  apply s_F_direction_0
  refine use_I m_S_hasSetUp (s_F_direction_8 ?_)
  rw [hsu_A hs.1 hg.1]
  refine ⟨fun h => leaf0 hs (by rw [qDirection, if_pos (bI_eq.mp h)]), fun h1 => use_I m_F_isTarget (s_F_direction_15 ⟨fun h2 => ?_, fun h2 => leaf0 hs ?_⟩)⟩
  · rw [bI_ne] at h1 h2
    unfold qDirection
    rw [if_neg (show ¬ hsA (gcur G) u = false by rw [h1]; decide), if_neg (show ¬ isT t = false by rw [h2]; decide)]
    obtain ⟨un, rfl, hu1⟩ := hsA_ok h1 hg.1
    have h4 := hg.1.1
    obtain ⟨tn, rfl, ht⟩ := isT_ok h2
    rw [Int32.lt_iff_toInt_lt, Int32.le_iff_toInt_le, i32_0, c4, cn_nI (n := un) (by omega), cn_nI (n := tn) (by omega)]
    refine ⟨fun h => leaf0 hs (by rw [if_pos (by omega)]), fun a1 => ⟨fun a2 => ?_, fun h => leaf0 hs (by rw [if_pos (by omega)])⟩⟩
    rw [if_neg (by omega)]
    refine use_reckon hs.1 hg.1 hu1 fun C1 hR hk => s_F_direction_45 ?_
    have hs1 := seeG_agR hR hs
    have fr1 : ∀ z, 74 ≤ z → C1 z = C z := fun z hz => hR z (by omega)
    refine ⟨fun h3 => ?_, fun h3 => ?_⟩
    · rw [if_neg h3]
      refine use_I (m_R_hasDirection ht (hk.2.1 tn ht)) (s_F_direction_67 ⟨fun h => ?_, fun h => leaf ?_ rfl hs1 fr1⟩)
      · rw [bI_ne] at h
        obtain ⟨x, hx⟩ := Option.isSome_iff_exists.mp h
        have hx2 : dirA (gcur G) un tn = some x := hx
        have hC : C1 73 tn = x := by rw [hk.2.1 tn ht, hx]; rfl
        have hC0 : C1 73 0 = 0 := by rw [hk.2.1 0 (by decide), dir_0 hx]; rfl
        rw [hx2, cl (by omega), hC]
        refine ⟨fun h0 => ⟨vpi ht (by decide), leaf (by simp only [if_pos h0]) rfl hs1 fr1⟩, fun h0 => ?_⟩
        simp only [if_neg h0]
        refine ⟨fun h0 => use_I (m_F_correction hs1.1 hg.1 (by omega) ht hC) (s_F_direction_116 (leaf (by rw [if_pos h0]) rfl hs1 fr1)), fun h0 => ?_⟩
        rw [if_neg h0]
        refine ⟨fun h0 => use_I (m_F_centredDirection hs1.1 hg.1 (by omega) ht hC hC0) (s_F_direction_123 (leaf (by rw [if_pos h0]) rfl hs1 fr1)), fun h0 => ?_⟩
        rw [if_neg h0]
        exact use_I (m_R_mostLeft ht hk) (s_F_direction_132 (leaf rfl rfl hs1 fr1))
      · rw [bI_eq, Option.isSome_eq_false_iff, Option.isNone_iff_eq_none] at h
        simp only [dirA, h]
    · rw [if_pos h3]
      exact use_I (m_R_roundsOf ht hk.1) (s_F_direction_58 (leaf rfl rfl hs1 fr1))
  · rw [bI_ne] at h1
    rw [qDirection, if_neg (by rw [h1]; decide), if_pos (bI_eq.mp h2)]
theorem m_angle {u a b w : Int32} (hg : gG G) (hs : seeG C p G) : am_Call (d + 6) 71 [.ref 0, .int u, .int a, .int b, .int w] (am_w zN C p) (am_Ret zN (fP C (qAngle G u a b w, G))) := by
  apply e_F_angle
  apply s_F_angle_0
  refine use_I m_S_hasSetUp (s_F_angle_8 ?_)
  rw [hsu_A hs.1 hg.1]
  refine ⟨fun h => leaf0 hs (by rw [qAngle, if_pos (bI_eq.mp h)]), fun h1 => use_I m_F_isTarget (s_F_angle_15 ⟨fun h2 => leaf0 hs ?_, fun h2 => use_I m_F_isTarget (s_F_angle_22 ⟨fun h3 => ?_, fun h3 => leaf0 hs ?_⟩)⟩)⟩
  · rw [bI_ne] at h1
    rw [qAngle, if_neg (by rw [h1]; decide), if_pos (bI_eq.mp h2)]
  · rw [bI_ne] at h1 h2 h3
    unfold qAngle
    rw [if_neg (show ¬ hsA (gcur G) u = false by rw [h1]; decide), if_neg (show ¬ isT a = false by rw [h2]; decide), if_neg (show ¬ isT b = false by rw [h3]; decide)]
    obtain ⟨un, rfl, hu1⟩ := hsA_ok h1 hg.1
    have h4 := hg.1.1
    obtain ⟨an, rfl, ha⟩ := isT_ok h2
    obtain ⟨bn, rfl, hb⟩ := isT_ok h3
    rw [cn_nI (n := un) (by omega), cn_nI (n := an) (by omega), cn_nI (n := bn) (by omega)]
    refine use_reckon hs.1 hg.1 hu1 fun C1 hR hk => s_F_angle_40 ?_
    have hs1 := seeG_agR hR hs
    have fr1 : ∀ z, 74 ≤ z → C1 z = C z := fun z hz => hR z (by omega)
    refine use_I (m_R_hasDirection ha (hk.2.1 an ha)) (s_F_angle_48 ⟨fun h => leaf ?_ rfl hs1 fr1, fun h => use_I (m_R_hasDirection hb (hk.2.1 bn hb)) (s_F_angle_59 ⟨fun h5 => ?_, fun h5 => leaf ?_ rfl hs1 fr1⟩)⟩)
    · rw [bI_eq, Option.isSome_eq_false_iff, Option.isNone_iff_eq_none] at h
      simp only [dirA, h]
    · rw [bI_ne] at h h5
      obtain ⟨x, hx⟩ := Option.isSome_iff_exists.mp h
      obtain ⟨y, hy⟩ := Option.isSome_iff_exists.mp h5
      have hx2 : dirA (gcur G) un an = some x := hx
      have hy2 : dirA (gcur G) un bn = some y := hy
      have hCx : C1 73 an = x := by rw [hk.2.1 an ha, hx]; rfl
      have hCy : C1 73 bn = y := by rw [hk.2.1 bn hb, hy]; rfl
      have hC0 : C1 73 0 = 0 := by rw [hk.2.1 0 (by decide), dir_0 hx]; rfl
      rw [hx2, hy2]
      refine ⟨fun h0 => ?_, fun h0 => ?_⟩
      · refine use_I (m_R_angleBetween ha hb) (s_F_angle_98 (leaf (by simp only [if_pos h0]; rfl) ?_ hs1 fr1))
        rw [hCx, hCy]
      · simp only [if_neg h0]
        exact use_I (m_F_centredDirection hs1.1 hg.1 (by omega) hb hCy hC0) (s_F_angle_76 (use_I (m_F_centredDirection hs1.1 hg.1 (by omega) ha hCx hC0) (s_F_angle_82 (use_I m_J_floorMod (s_F_angle_88 (leaf rfl rfl hs1 fr1))))))
    · rw [bI_ne] at h
      rw [bI_eq, Option.isSome_eq_false_iff, Option.isNone_iff_eq_none] at h5
      obtain ⟨x, hx⟩ := Option.isSome_iff_exists.mp h
      simp only [dirA, h5, hx]
  · rw [bI_ne] at h1 h2
    rw [qAngle, if_neg (by rw [h1]; decide), if_neg (by rw [h2]; decide), if_pos (bI_eq.mp h3)]
end
