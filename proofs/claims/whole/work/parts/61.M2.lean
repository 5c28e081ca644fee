/-! the model: why, what a round says of a target -/
theorem m5_none {o : Option Nat} {n : Nat} (hn : n ≤ 4000) (h : ∀ k, o = some k → k < n) : oI (-2000005) o = -2000005 ↔ o = none := by
  cases o with
  | none => simp [oI]
  | some k =>
    have := h k rfl
    simp only [oI, reduceCtorEq, iff_false]
    exact (nI_ne (by omega)).2
theorem plc_m5 {f : aFace} {t : Int32} (h : f.1 ≤ 6) : oI (-2000005) (plc f t) = -2000005 ↔ plc f t = none := m5_none (n := 6) (by decide) (fun k hk => Nat.lt_of_lt_of_le (plc_lt hk).1 h)
theorem cot_some {f : aFace} {t : Int32} {k : Nat} (h : plc f t = some k) : cot f t = cor f k := by rw [cot, h]
theorem own_le (f g : aFace) (t : Int32) : own f g t ≤ 3 := by
  unfold own
  split
  · decide
  · decide
  · split <;> decide
theorem why_le (f g : aFace) (t : Int32) : why f g t ≤ 4 := by
  have := own_le f g t
  unfold why
  split
  · omega
  · split <;> omega
theorem nI_le0 {n : Nat} (h : n < 5000) : nI n ≤ 0 ↔ n = 0 := by
  rw [show (0 : Int32) = nI 0 from rfl, le5 h (by decide)]
  omega
theorem nI_eq0 {n : Nat} (h : n < 5000) : nI n = 0 ↔ n = 0 := by
  rw [show (0 : Int32) = nI 0 from rfl, eq5 h (by decide)]
section
variable {d : Nat} {C : Nat → Nat → Int32} {p : Nat → Option Nat} {A : aS} {u r : Nat}
theorem m_M_lacks {t : Int32} (hs : seesM (C 75) A) (hg : good A) (hu : u < A.1) (hr : r < aR A u) : cI (d + 3) 105 [.ref 74, .int (nI u), .int (nI r), .int t] C p (nI (own (aF A (rwn u r 0)) (aF A (rwn u r 1)) t)) C p := by
  have h4 := hg.1
  have h6 := (hg.2.2.2.1 u (by omega)).1
  have m0 := hs.2.2.2.2 u r 0 hu hr (by decide)
  have m1 := hs.2.2.2.2 u r 1 hu hr (by decide)
  have k0 := hg.2.2.2.2.1 (rwn u r 0) (by unfold rwn; omega)
  have k1 := hg.2.2.2.2.1 (rwn u r 1) (by unfold rwn; omega)
  have b0 := fbs_lt (u := u) (r := r) (f := 0) (by omega) (by omega) (by decide)
  have b1 := fbs_lt (u := u) (r := r) (f := 1) (by omega) (by omega) (by decide)
  generalize aF A (rwn u r 0) = f at *
  generalize aF A (rwn u r 1) = g at *
  generalize e0 : fbs u r 0 = B0 at *
  generalize e1 : fbs u r 1 = B1 at *
  apply e_M_lacks
  apply s_M_lacks_0
  refine use_I (m_M_faceAt (f := 0)) (s_M_lacks_6 (use_I (m_M_faceAt (f := 1)) (s_M_lacks_14 ?_)))
  rw [e0, e1]
  refine use_I (m_M_placeOf b0 m0 k0) (s_M_lacks_23 (use_I (m_M_placeOf b1 m1 k1) (s_M_lacks_32 ?_)))
  rw [plc_m5 k0.1, plc_m5 k1.1]
  refine ⟨fun h0 => ⟨fun h1 => ?_, fun h1 => ?_⟩, fun h0 => ret_I' ?_ rfl rfl⟩
  · cases hp : plc f t with
    | none => exact absurd hp h0
    | some a =>
      cases hq : plc g t with
      | none => exact absurd hq h1
      | some b =>
        have ha := (plc_lt hp).1
        have hb := (plc_lt hq).1
        have h60 := k0.1
        have h61 := k1.1
        have eo : own f g t = if f.2.2.2.1 a = 0 ∧ g.2.2.2.1 b = 0 then 0 else 3 := by rw [own, hp, hq]
        rw [eo]
        refine use_I (m_M_placed (w := 2)) (s_M_lacks_68 ?_)
        rw [cl (by omega), show B0 + 3 + 3 * a + 2 = B0 + 5 + 3 * a by omega, (mr_tg m0 ha).2.2]
        refine ⟨vpi (by omega) (by decide), use_I (m_M_placed (w := 2)) (s_M_lacks_81 ?_)⟩
        rw [cl (by omega), show B1 + 3 + 3 * b + 2 = B1 + 5 + 3 * b by omega, (mr_tg m1 hb).2.2]
        refine ⟨vpi (by omega) (by decide), ?_⟩
        rcases k0.2.2.1 a ha with ea | ea <;> rcases k1.2.2.1 b hb with eb | eb <;> rw [ea, eb]
        · exact ⟨fun _ => ret_I' rfl rfl rfl, fun h => absurd (by decide) h⟩
        · exact ⟨fun h => absurd h (by decide), fun _ => ret_I' rfl rfl rfl⟩
        · exact ⟨fun h => absurd h (by decide), fun _ => ret_I' rfl rfl rfl⟩
        · exact ⟨fun h => absurd h (by decide), fun _ => ret_I' rfl rfl rfl⟩
  · cases hp : plc f t with
    | none => exact absurd hp h0
    | some a => exact ret_I' (by rw [own, hp, h1]; rfl) rfl rfl
  · rw [own, h0]; rfl
theorem m_M_why {t : Int32} (hs : seesM (C 75) A) (hg : good A) (hu : u < A.1) (hr : r < aR A u) : cI (d + 4) 106 [.ref 74, .int (nI u), .int (nI r), .int t] C p (nI (why (aF A (rwn u r 0)) (aF A (rwn u r 1)) t)) C p := by
  have ho := own_le (aF A (rwn u r 0)) (aF A (rwn u r 1)) t
  have ho0 := own_le (aF A (rwn u r 0)) (aF A (rwn u r 1)) 0
  apply e_M_why
  apply s_M_why_0
  refine use_I (m_M_lacks hs hg hu hr) (s_M_why_7 ?_)
  rw [nI_le0 (by omega)]
  refine ⟨fun h => use_I (m_M_lacks hs hg hu hr) (s_M_why_26 ?_), fun h => ret_I' ?_ rfl rfl⟩
  · rw [nI_le0 (by omega)]
    have e : why (aF A (rwn u r 0)) (aF A (rwn u r 1)) t = if own (aF A (rwn u r 0)) (aF A (rwn u r 1)) 0 = 0 then 0 else 4 := by
      unfold why
      by_cases ht : t = 0
      · subst ht
        rw [if_pos (Or.inr rfl), h]
        rfl
      · rw [if_neg (not_or.mpr ⟨fun e => e h, ht⟩)]
    rw [e]
    exact ⟨fun h0 => ret_I' (by rw [if_pos h0]; rfl) rfl rfl, fun h0 => ret_I' (by rw [if_neg h0]; rfl) rfl rfl⟩
  · unfold why
    rw [if_pos (Or.inl h)]
theorem m_M_apart {t : Int32} {a b : Nat} (hs : seesM (C 75) A) (hg : good A) (hu : u < A.1) (hr : r < aR A u) (ha : plc (aF A (rwn u r 0)) t = some a) (hb : plc (aF A (rwn u r 1)) t = some b) : cI (d + 5) 107 [.ref 74, .int (nI u), .int (nI r), .int t] C p (apt (aF A (rwn u r 0)) (aF A (rwn u r 1)) t) C p := by
  have h4 := hg.1
  have h6 := (hg.2.2.2.1 u (by omega)).1
  have m0 := hs.2.2.2.2 u r 0 hu hr (by decide)
  have m1 := hs.2.2.2.2 u r 1 hu hr (by decide)
  have k0 := hg.2.2.2.2.1 (rwn u r 0) (by unfold rwn; omega)
  have k1 := hg.2.2.2.2.1 (rwn u r 1) (by unfold rwn; omega)
  have b0 := fbs_lt (u := u) (r := r) (f := 0) (by omega) (by omega) (by decide)
  have b1 := fbs_lt (u := u) (r := r) (f := 1) (by omega) (by omega) (by decide)
  generalize aF A (rwn u r 0) = f at *
  generalize aF A (rwn u r 1) = g at *
  generalize e0 : fbs u r 0 = B0 at *
  generalize e1 : fbs u r 1 = B1 at *
  have p0 := m_M_placeOf (d := d + 2) (p := p) (t := t) b0 m0 k0
  have p1 := m_M_placeOf (d := d + 2) (p := p) (t := t) b1 m1 k1
  rw [ha] at p0
  rw [hb] at p1
  apply e_M_apart
  apply s_M_apart_0
  refine use_I (m_M_faceAt (f := 0)) (s_M_apart_6 (use_I (m_M_faceAt (f := 1)) (s_M_apart_14 ?_)))
  rw [e0, e1]
  refine use_I p1 (s_M_apart_26 (use_I (m_M_corrected b1 m1 k1 (plc_lt hb).1) (s_M_apart_29 (use_I p0 (s_M_apart_42 (use_I (m_M_corrected b0 m0 k0 (plc_lt ha).1) (s_M_apart_45 (use_I m_M_near (s_M_apart_49 (ret_I' ?_ rfl rfl))))))))))
  rw [apt, cot_some ha, cot_some hb]
theorem two : 0 < (2 : Int32).toInt := by decide
theorem m_M_mean {t : Int32} {a b : Nat} (hs : seesM (C 75) A) (hg : good A) (hu : u < A.1) (hr : r < aR A u) (ha : plc (aF A (rwn u r 0)) t = some a) (hb : plc (aF A (rwn u r 1)) t = some b) : cI (d + 6) 108 [.ref 74, .int (nI u), .int (nI r), .int t] C p (mea (aF A (rwn u r 0)) (aF A (rwn u r 1)) t) C p := by
  have h4 := hg.1
  have h6 := (hg.2.2.2.1 u (by omega)).1
  have m0 := hs.2.2.2.2 u r 0 hu hr (by decide)
  have k0 := hg.2.2.2.2.1 (rwn u r 0) (by unfold rwn; omega)
  have b0 := fbs_lt (u := u) (r := r) (f := 0) (by omega) (by omega) (by decide)
  have p0 := m_M_placeOf (d := d + 3) (p := p) (t := t) b0 m0 k0
  rw [ha] at p0
  have hap := m_M_apart (d := d) (p := p) hs hg hu hr ha hb
  apply e_M_mean
  apply s_M_mean_0
  refine use_I (m_M_faceAt (f := 0)) (s_M_mean_6 (use_I p0 (s_M_mean_18 (use_I (m_M_corrected b0 m0 k0 (plc_lt ha).1) (s_M_mean_21 (use_I hap (s_M_mean_28 (use_I (m_M_divided two) (s_M_mean_32 (ret_I' ?_ rfl rfl))))))))))
  rw [mea, cot_some ha]
theorem m_M_sight {t : Int32} {a b : Nat} (hs : seesM (C 75) A) (hg : good A) (hu : u < A.1) (hr : r < aR A u) (ha : plc (aF A (rwn u r 0)) t = some a) (hb : plc (aF A (rwn u r 1)) t = some b) : cI (d + 6) 109 [.ref 74, .int (nI u), .int (nI r), .int t] C p (sgt (aF A (rwn u r 0)) (aF A (rwn u r 1)) t) C p :=
  e_M_sight (s_M_sight_0 (use_I (m_M_apart (d := d) hs hg hu hr ha hb) (s_M_sight_7 (use_I (m_M_divided two) (s_M_sight_12 (ret_I' rfl rfl rfl))))))
/-- of a used target both faces have a pointing, and of target 0 too -/
theorem us_pl {t : Nat} (h : us (GA A u) r t = true) : (∃ a b, plc (aF A (rwn u r 0)) (nI t) = some a ∧ plc (aF A (rwn u r 1)) (nI t) = some b) ∧ ∃ a b, plc (aF A (rwn u r 0)) 0 = some a ∧ plc (aF A (rwn u r 1)) 0 = some b := by
  simp only [us, decide_eq_true_eq] at h
  obtain ⟨h1, h2⟩ := why_used h
  exact ⟨own_places h1, own_places h2⟩
theorem m_M_reducedIn {t : Nat} (hs : seesM (C 75) A) (hg : good A) (hu : u < A.1) (hr : r < aR A u) (h : us (GA A u) r t = true) : cI (d + 7) 110 [.ref 74, .int (nI u), .int (nI r), .int (nI t)] C p (reR (GA A u) r t) C p := by
  obtain ⟨⟨a, b, ha, hb⟩, a0, c0, ha0, hb0⟩ := us_pl h
  exact e_M_reducedIn (s_M_reducedIn_0 (use_I (m_M_mean (d := d) hs hg hu hr ha hb) (s_M_reducedIn_7 (use_I (m_M_mean (d := d) hs hg hu hr ha0 hb0) (s_M_reducedIn_14 (use_I m_M_full (s_M_reducedIn_18 (ret_I' rfl rfl rfl))))))))
end
