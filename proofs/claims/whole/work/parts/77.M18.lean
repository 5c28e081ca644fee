/-! the model: wipe -/
theorem mrow_wp {C : Nat → Nat → Int32} {b k : Nat} {f : aFace} (h : mrow (C 75) b f) (h6 : f.1 ≤ 6) (hk : k < f.1) : mrow (wpC C b f.1 k (b + 3 + 3 * (f.1 - 1)) 75) b (frem f k) := by
  have o : ∀ i, i ≠ b → (i < b + 3 + 3 * k ∨ b + 3 + 3 * (f.1 - 1) ≤ i) → wpC C b f.1 k (b + 3 + 3 * (f.1 - 1)) 75 i = C 75 i := fun i h1 h2 => by
    simp only [wpC]
    rw [if_neg (by omega), if_neg (by omega)]
  have o2 : ∀ i, i ≠ b → b + 3 + 3 * k ≤ i → i < b + 3 + 3 * (f.1 - 1) → wpC C b f.1 k (b + 3 + 3 * (f.1 - 1)) 75 i = C 75 (i + 3) := fun i h1 h2 h3 => by
    simp only [wpC]
    rw [if_neg (by omega), if_pos ⟨trivial, h2, h3⟩]
  have e0 : wpC C b f.1 k (b + 3 + 3 * (f.1 - 1)) 75 b = nI (f.1 - 1) := by simp [wpC]
  refine mrow_mk e0 (by show f.1 - 1 < 5000; omega) cut_cut cut_cut cut_cut ?_ (fun j hj => ?_)
  · rw [o _ (by omega) (by omega), o _ (by omega) (by omega)]
    have hh := mr_c h
    exact hh
  · have hj2 : j < f.1 - 1 := hj
    simp only [frem]
    rw [cut_lt hj2, cut_lt hj2, cut_lt hj2]
    by_cases e : k ≤ j
    · obtain ⟨t1, t2, t3⟩ := mr_tg h (k := j + 1) (by omega)
      rw [if_pos e, if_pos e, if_pos e, o2 _ (by omega) (by omega) (by omega), o2 _ (by omega) (by omega) (by omega), o2 _ (by omega) (by omega) (by omega)]
      rw [show b + 3 + 3 * j + 3 = b + 3 + 3 * (j + 1) by omega, show b + 4 + 3 * j + 3 = b + 4 + 3 * (j + 1) by omega, show b + 5 + 3 * j + 3 = b + 5 + 3 * (j + 1) by omega]
      exact ⟨t1, t2, t3⟩
    · rw [if_neg e, if_neg e, if_neg e, o _ (by omega) (by omega), o _ (by omega) (by omega), o _ (by omega) (by omega)]
      exact mr_tg h (by omega)
/-- wipes at the place of a target, if there is one -/
def wpO (C : Nat → Nat → Int32) (b : Nat) (f : aFace) (t : Int32) : Nat → Nat → Int32 := match plc f t with
  | none => C
  | some k => wpC C b f.1 k (b + 3 + 3 * (f.1 - 1))
theorem wpO_n {C : Nat → Nat → Int32} {b z : Nat} {f : aFace} {t : Int32} (hz : z ≠ 75) : wpO C b f t z = C z := by
  unfold wpO
  cases plc f t with
  | none => rfl
  | some k =>
    funext i
    simp only [wpC]
    rw [if_neg (by omega), if_neg (by omega)]
theorem seesM_rem {C : Nat → Nat → Int32} {A : aS} {u r f : Nat} {t : Int32} (hg : good A) (hs : seesM (C 75) A) (hu : u < A.1) (hr : r < aR A u) (hf : f < 2) : seesM (wpO C (fbs u r f) (aF A (rwn u r f)) t 75) (remA A (rwn u r f) t) := by
  have h4 := hg.1
  have h6 := (hg.2.2.2.1 u (by omega)).1
  have fk := hg.2.2.2.2.1 (rwn u r f) (by unfold rwn; omega)
  have fk6 := fk.1
  cases hp : plc (aF A (rwn u r f)) t with
  | none =>
    simp only [wpO, remA, hp]
    exact hs
  | some k =>
    simp only [wpO, remA, hp]
    have hk := (plc_lt hp).1
    refine seesM_face hg hs hu hr hf (fun i hi => ?_) (mrow_wp (hs.2.2.2.2 u r f hu hr hf) fk6 hk)
    simp only [wpC]
    rw [if_neg (by omega), if_neg (by omega)]
section
variable {d : Nat} {C : Nat → Nat → Int32} {p : Nat → Option Nat} {G : aGl}
theorem m_M_isFirst {b : Nat} {f : aFace} {t : Int32} (hb : b + 21 ≤ 1028) (hm : mrow (C 75) b f) (hf : fok f) : cI (d + 3) 124 [.ref 74, .int (nI b), .int t] C p (bI (blk f t)) C p := by
  have h6 := hf.1
  apply e_M_isFirstOfClosed
  apply s_M_isFirstOfClosed_0
  rw [nI_1, cl (by omega)]
  refine ⟨vpi (by omega) (by decide), fun h => ⟨Or.inl rfl, ret_I' ?_ rfl rfl⟩, fun h => use_I (m_M_placeOf hb hm hf) (s_M_isFirstOfClosed_18 ⟨fun h2 => ⟨Or.inl rfl, ret_I' ?_ rfl rfl⟩, fun h2 => ⟨Or.inr rfl, ret_I' ?_ rfl rfl⟩⟩)⟩
  · have hc := hm.2.2.2.mpr (hm.2.1.resolve_right h)
    rw [blk, decide_eq_false (fun e => e.2 hc)]
    rfl
  · rw [blk, decide_eq_false (fun e => h2 (by rw [e.1]; rfl))]
    rfl
  · have hne : f.2.2.2.2 ≠ -1 := fun e => by
      have := hm.2.2.2.mp e
      rw [h] at this
      exact absurd this (by decide)
    have h0 : plc f t = some 0 := by
      cases hp : plc f t with
      | none => rw [hp] at h2; exact absurd h2 (by decide)
      | some k =>
        rw [hp] at h2
        have hk6 := (plc_lt hp).1
        rw [nI_inj (b := 0) (by omega) (by decide) h2]
    rw [blk, decide_eq_true ⟨h0, hne⟩]
    rfl
theorem m_M_wipesO {b : Nat} {f : aFace} {t : Int32} (hb : b + 21 ≤ 1028) (hm : mrow (C 75) b f) (hf : fok f) : cI (d + 2) 125 [.ref 74, .int (nI b), .int (oI (-2000005) (plc f t))] C p (nI (hs1 f t)) (wpO C b f t) p := by
  cases hp : plc f t with
  | none =>
    have e1 : hs1 f t = 0 := by simp [hs1, hp]
    have e2 : wpO C b f t = C := by simp only [wpO, hp]
    rw [e1, e2]
    apply e_M_wipes
    apply s_M_wipes_0
    exact ⟨fun h => absurd rfl h, fun _ => ret_I' rfl rfl rfl⟩
  | some k =>
    have e1 : hs1 f t = 1 := by simp [hs1, hp]
    have e2 : wpO C b f t = wpC C b f.1 k (b + 3 + 3 * (f.1 - 1)) := by simp only [wpO, hp]
    rw [e1, e2]
    exact m_M_wipes hb hm.1 (plc_lt hp).1 hf.1
theorem M_wipe {u r t : Int32} (hg : gG G) (hs : seeMd C G) : am_Call (d + 4) 126 [.ref 74, .int u, .int r, .int t] (am_w C p) (am_Ret (fPm C p (oWipe G u r t))) := by
  apply e_M_wipe
  apply s_M_wipe_0
  refine use_I (m_M_isRound hs.1 hg.1) (s_M_wipe_6 ⟨fun h => lfM0 hs (by rw [oWipe, if_pos (bI_eq.mp h)]), fun h1 => use_I m_M_isTarget (s_M_wipe_13 ⟨fun h2 => ?_, fun h2 => lfM0 hs ?_⟩)⟩)
  · rw [bI_ne] at h1 h2
    have E : oWipe G u r t = if blk (aF (gcur G) (rwx u r 0)) t = true ∨ blk (aF (gcur G) (rwx u r 1)) t = true then (-2000004, G) else if hs1 (aF (gcur G) (rwx u r 0)) t + hs1 (aF (gcur G) (rwx u r 1)) t = 0 then (-2000005, G) else (nI (hs1 (aF (gcur G) (rwx u r 0)) t + hs1 (aF (gcur G) (rwx u r 1)) t), grec G (remA (remA (gcur G) (rwx u r 0) t) (rwx u r 1) t)) := by
      rw [oWipe, if_neg (by rw [h1]; decide), if_neg (by rw [h2]; decide)]
    obtain ⟨un, rn, rfl, hu1, hu, rfl, hr1, hr⟩ := hrA_ok h1 hg.1
    have e0 : rwx (nI un) (nI rn) 0 = rwn un rn 0 := rwx_nI (f := 0) hu hr (by decide)
    have e1 : rwx (nI un) (nI rn) 1 = rwn un rn 1 := rwx_nI (f := 1) hu hr (by decide)
    simp only [e0, e1] at E
    have m0 := hs.1.2.2.2.2 un rn 0 hu1 hr1 (by decide)
    have m1 := hs.1.2.2.2.2 un rn 1 hu1 hr1 (by decide)
    have k0 := hg.1.2.2.2.2.1 (rwn un rn 0) (by unfold rwn; omega)
    have k1 := hg.1.2.2.2.2.1 (rwn un rn 1) (by unfold rwn; omega)
    have b0 := fbs_lt (f := 0) hu hr (by decide)
    have b1 := fbs_lt (f := 1) hu hr (by decide)
    refine use_I (m_M_faceAt (f := 0)) (s_M_wipe_25 (use_I (m_M_faceAt (f := 1)) (s_M_wipe_33 (use_I (m_M_isFirst b0 m0 k0) (s_M_wipe_42 ⟨fun h => lfM0 hs ?_, fun h3 => use_I (m_M_isFirst b1 m1 k1) (s_M_wipe_52 ⟨fun h4 => use_I (m_M_placeOf b0 m0 k0) (s_M_wipe_65 (use_I (m_M_placeOf b1 m1 k1) (s_M_wipe_74 ?_))), fun h => lfM0 hs ?_⟩)⟩)))))
    · rw [bI_ne] at h
      rw [E, if_pos (Or.inl h)]
    · rw [bI_eq] at h3 h4
      rw [if_neg (by rw [h3, h4]; decide)] at E
      have fin : ¬ hs1 (aF (gcur G) (rwn un rn 0)) t + hs1 (aF (gcur G) (rwn un rn 1)) t = 0 → am_Cv (d + 3) 92 [.ref 74] (am_w C p) (fun w1 => am_At (d + 3 + 1) 126 none (am_Ret (fPm C p (oWipe G (nI un) (nI rn) t))) 97 [some (.ref 74), some (.int (nI un)), some (.int (nI rn)), some (.int t), some (.int (nI (fbs un rn 0))), some (.int (nI (fbs un rn 1))), some (.int (oI (-2000005) (plc (aF (gcur G) (rwn un rn 0)) t))), some (.int (oI (-2000005) (plc (aF (gcur G) (rwn un rn 1)) t)))] [] w1 (0, 0)) := by
        intro hne
        rw [if_neg hne] at E
        refine use_know hg hs fun C' hs' hf' => s_M_wipe_97 ?_
        have hsc : seesM (C' 75) (gcur G) := hs'.1
        have hs2 := seesM_rem (f := 0) (t := t) hg.1 hsc hu1 hr1 (by decide)
        have hg2 : good (remA (gcur G) (rwn un rn 0) t) := good_remA hg.1 hu hr1 (f := 0) (by decide) h3
        have hr2 : rn < aR (remA (gcur G) (rwn un rn 0) t) un := by rw [remA_aR]; exact hr1
        have hu2 : un < (remA (gcur G) (rwn un rn 0) t).1 := by
          unfold remA
          split <;> exact hu1
        have eF : aF (remA (gcur G) (rwn un rn 0) t) (rwn un rn 1) = aF (gcur G) (rwn un rn 1) := remA_ne (by unfold rwn; omega)
        have hs3 := seesM_rem (C := wpO C' (fbs un rn 0) (aF (gcur G) (rwn un rn 0)) t) (f := 1) (t := t) hg2 hs2 hu2 hr2 (by decide)
        have m1' := hs2.2.2.2.2 un rn 1 hu2 hr2 (by decide)
        rw [eF] at hs3 m1'
        exact use_I (m_M_wipesO b0 (hsc.2.2.2.2 un rn 0 hu1 hr1 (by decide)) k0) (s_M_wipe_105 (use_I (m_M_wipesO b1 m1' k1) (s_M_wipe_113 (lfR hs' hf' E (nI_add _ _) hs3 (fun z hz => by rw [wpO_n hz, wpO_n hz])))))
      have hs1n : ∀ f : aFace, plc f t = none → hs1 f t = 0 := fun f h => by simp [hs1, h]
      have hs1s : ∀ f : aFace, plc f t ≠ none → hs1 f t = 1 := fun f h => by
        cases hp : plc f t with
        | none => exact absurd hp h
        | some k => simp [hs1, hp]
      rw [plc_m5 k0.1, plc_m5 k1.1]
      refine ⟨fun h => fin ?_, fun h => ⟨fun h5 => fin ?_, fun h5 => lfM0 hs ?_⟩⟩
      · rw [hs1s _ h]
        omega
      · rw [hs1s _ h5]
        omega
      · rw [E, if_pos]
        rw [hs1n _ h, hs1n _ h5]
    · rw [bI_ne] at h
      rw [E, if_pos (Or.inr h)]
  · rw [bI_ne] at h1
    rw [oWipe, if_neg (by rw [h1]; decide), if_pos (bI_eq.mp h2)]
end
