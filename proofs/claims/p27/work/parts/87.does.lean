/-! THE LAW'S CALLS THAT CHANGE: any of them answers an int from NONE on, and the state stays good -/
variable {zN : Nat}
def anyP : Option Value → (Nat → Nat → Int32) → (Nat → Option Nat) → Prop := fun r C' p' => ∃ e G', r = some (.int e) ∧ -2000005 ≤ e.toInt ∧ gG G' ∧ seeG C' p' G'
theorem skn_le (f : aFace) : skn f ≤ f.1 := cnt_le _ _ _
section
variable {G : aGl}
theorem lo1 {G : aGl} : -2000005 ≤ ((-2000001 : Int32), G).1.toInt := by
  show -2000005 ≤ (-2000001 : Int32).toInt
  decide
theorem lo2 {G : aGl} : -2000005 ≤ ((-2000002 : Int32), G).1.toInt := by
  show -2000005 ≤ (-2000002 : Int32).toInt
  decide
theorem lo3 {G : aGl} : -2000005 ≤ ((-2000003 : Int32), G).1.toInt := by
  show -2000005 ≤ (-2000003 : Int32).toInt
  decide
theorem lo4 {G : aGl} : -2000005 ≤ ((-2000004 : Int32), G).1.toInt := by
  show -2000005 ≤ (-2000004 : Int32).toInt
  decide
theorem lo5 {G : aGl} : -2000005 ≤ ((-2000005 : Int32), G).1.toInt := by
  show -2000005 ≤ (-2000005 : Int32).toInt
  decide
theorem lo_oSetUp (hg : gG G) : -2000005 ≤ (oSetUp G).1.toInt := by
  unfold oSetUp
  split
  · exact nI_nn (by omega)
  · (first | exact lo1 | exact lo2 | exact lo3 | exact lo4 | exact lo5)
theorem lo_oBegin {u : Int32} (hg : gG G) : -2000005 ≤ (oBegin G u).1.toInt := by
  unfold oBegin
  split
  · split
    · exact nI_nn (by omega)
    · (first | exact lo1 | exact lo2 | exact lo3 | exact lo4 | exact lo5)
  · (first | exact lo1 | exact lo2 | exact lo3 | exact lo4 | exact lo5)
theorem lo_oPoint {u r t f rd : Int32} (hg : gG G) : -2000005 ≤ (oPoint G u r t f rd).1.toInt := by
  unfold oPoint
  by_cases h1 : hrA (gcur G) u r = false
  · rw [if_pos h1]; (first | exact lo1 | exact lo2 | exact lo3 | exact lo4 | exact lo5)
  rw [if_neg h1]
  split
  · (first | exact lo1 | exact lo2 | exact lo3 | exact lo4 | exact lo5)
  by_cases h3 : isFc f = false
  · rw [if_pos h3]; (first | exact lo1 | exact lo2 | exact lo3 | exact lo4 | exact lo5)
  rw [if_neg h3]
  split
  · (first | exact lo1 | exact lo2 | exact lo3 | exact lo4 | exact lo5)
  obtain ⟨un, rn, rfl, hu1, hu, rfl, hr1, hr⟩ := hrA_ok (bf h1) hg.1
  obtain ⟨fn, rfl, hf⟩ := isFc_ok (bf h3)
  rw [rwx_nI hu hr hf]
  have hk := (hg.1.2.2.2.2.1 ((un * 6 + rn) * 2 + fn) (by omega)).1
  split
  · exact nI_nn (by omega)
  · (first | exact lo1 | exact lo2 | exact lo3 | exact lo4 | exact lo5)
theorem lo_oClose {u r f x : Int32} : -2000005 ≤ (oClose G u r f x).1.toInt := by
  unfold oClose
  split
  · (first | exact lo1 | exact lo2 | exact lo3 | exact lo4 | exact lo5)
  split
  · (first | exact lo1 | exact lo2 | exact lo3 | exact lo4 | exact lo5)
  split
  · (first | exact lo1 | exact lo2 | exact lo3 | exact lo4 | exact lo5)
  split
  · have := nr_rg (x - (aF (gcur G) (rwx u r f)).2.2.1 0)
    show -2000005 ≤ (nr _).toInt
    omega
  · (first | exact lo1 | exact lo2 | exact lo3 | exact lo4 | exact lo5)
theorem lo_oStrike {u r t f v : Int32} (hv : v = 0 ∨ v = 1) (hg : gG G) : -2000005 ≤ (oStrike G u r t f v).1.toInt := by
  unfold oStrike
  by_cases h1 : hrA (gcur G) u r = false
  · rw [if_pos h1]; (first | exact lo1 | exact lo2 | exact lo3 | exact lo4 | exact lo5)
  rw [if_neg h1]
  by_cases h3 : isFc f = false
  · rw [if_pos h3]; (first | exact lo1 | exact lo2 | exact lo3 | exact lo4 | exact lo5)
  rw [if_neg h3]
  obtain ⟨un, rn, rfl, hu1, hu, rfl, hr1, hr⟩ := hrA_ok (bf h1) hg.1
  obtain ⟨fn, rfl, hf⟩ := isFc_ok (bf h3)
  rw [rwx_nI hu hr hf]
  have hk := hg.1.2.2.2.2.1 ((un * 6 + rn) * 2 + fn) (by omega)
  cases plc (aF (gcur G) ((un * 6 + rn) * 2 + fn)) t with
  | none => exact lo1
  | some k =>
    show -2000005 ≤ (if (aF (gcur G) ((un * 6 + rn) * 2 + fn)).2.2.2.1 k = v then ((-2000005 : Int32), G) else _).1.toInt
    split
    · (first | exact lo1 | exact lo2 | exact lo3 | exact lo4 | exact lo5)
    · have hgo := good_upF hg.1 hu hr1 hf (fok_fstr (j := k) hk hv)
      show -2000005 ≤ (nI (skR _ (nI un) (nI rn))).toInt
      refine nI_nn ?_
      unfold skR
      have q : ∀ x, x < 2 → skn (aF (upF (gcur G) ((un * 6 + rn) * 2 + fn) (fstr (aF (gcur G) ((un * 6 + rn) * 2 + fn)) k v)) (rwx (nI un) (nI rn) (nI x))) ≤ 6 := by
        intro x hx
        rw [rwx_nI hu hr hx]
        exact Nat.le_trans (skn_le _) (hgo.2.2.2.2.1 _ (by omega)).1
      have q0 := q 0 (by omega)
      have q1 := q 1 (by omega)
      exact Nat.lt_of_le_of_lt (Nat.add_le_add q0 q1) (by decide)
theorem lo_oWipe {u r t : Int32} : -2000005 ≤ (oWipe G u r t).1.toInt := by
  have hh : ∀ f : aFace, hs1 f t ≤ 1 := fun f => by unfold hs1; split <;> omega
  have h0 := hh (aF (gcur G) (rwx u r 0))
  have h1 := hh (aF (gcur G) (rwx u r 1))
  unfold oWipe
  split
  · (first | exact lo1 | exact lo2 | exact lo3 | exact lo4 | exact lo5)
  split
  · (first | exact lo1 | exact lo2 | exact lo3 | exact lo4 | exact lo5)
  split
  · (first | exact lo1 | exact lo2 | exact lo3 | exact lo4 | exact lo5)
  split
  · (first | exact lo1 | exact lo2 | exact lo3 | exact lo4 | exact lo5)
  · exact nI_nn (by omega)
theorem clnL_le (u : Nat) : ∀ (m : Nat) (A : aS), (clnL u m A).1 ≤ m
  | 0, _ => Nat.le_refl _
  | m + 1, A => by
    unfold clnL
    split
    · exact Nat.zero_le _
    · exact Nat.succ_le_succ (clnL_le u m _)
theorem lo_oClean {u : Int32} : -2000005 ≤ (oClean G u).1.toInt := by
  unfold oClean
  split
  · (first | exact lo1 | exact lo2 | exact lo3 | exact lo4 | exact lo5)
  split
  · (first | exact lo1 | exact lo2 | exact lo3 | exact lo4 | exact lo5)
  · have := clnL_le (cn u) 36 (gcur G)
    exact nI_nn (by omega)
theorem lo_oSetLimit {x : Int32} (hg : gG G) : -2000005 ≤ (oSetLimit G x).1.toInt := by
  unfold oSetLimit
  split
  · (first | exact lo1 | exact lo2 | exact lo3 | exact lo4 | exact lo5)
  split
  · (first | exact lo1 | exact lo2 | exact lo3 | exact lo4 | exact lo5)
  · have := hg.1.2.1.1
    show -2000005 ≤ (gcur G).2.1.toInt
    omega
theorem lo_oCentre {u x y : Int32} (hg : gG G) : -2000005 ≤ (oCentre G u x y).1.toInt := by
  unfold oCentre
  by_cases h1 : hsA (gcur G) u = false
  · rw [if_pos h1]; (first | exact lo1 | exact lo2 | exact lo3 | exact lo4 | exact lo5)
  rw [if_neg h1]
  split
  · (first | exact lo1 | exact lo2 | exact lo3 | exact lo4 | exact lo5)
  split
  · (first | exact lo1 | exact lo2 | exact lo3 | exact lo4 | exact lo5)
  · obtain ⟨un, rfl, hu⟩ := hsA_ok (bf h1) hg.1
    have h4 := hg.1.1
    rw [cn_nI (by omega)]
    obtain ⟨-, ⟨a1, a2⟩, b1, b2⟩ := hg.1.2.2.2.1 un (by omega)
    show -2000005 ≤ (aO (gcur G) un * 100 + aQ (gcur G) un).toInt
    have e1 : (aO (gcur G) un * 100).toInt = (aO (gcur G) un).toInt * 100 := by
      rw [Int32.toInt_mul, show (100 : Int32).toInt = 100 from by decide]
      exact Int.bmod_eq_of_le (by omega) (by omega)
    rw [Int32.toInt_add, e1, Int.bmod_eq_of_le (by omega) (by omega)]
    omega
theorem lo_oSetDistance {t x : Int32} (hg : gG G) : -2000005 ≤ (oSetDistance G t x).1.toInt := by
  unfold oSetDistance
  by_cases h1 : isT t = false
  · rw [if_pos h1]; (first | exact lo1 | exact lo2 | exact lo3 | exact lo4 | exact lo5)
  rw [if_neg h1]
  split
  · (first | exact lo1 | exact lo2 | exact lo3 | exact lo4 | exact lo5)
  split
  · (first | exact lo1 | exact lo2 | exact lo3 | exact lo4 | exact lo5)
  · obtain ⟨tn, rfl, ht⟩ := isT_ok (bf h1)
    have := (hg.1.2.2.1 tn ht).1
    rw [cn_nI (by omega)]
    show -2000005 ≤ (aD (gcur G) tn).toInt
    omega
end
theorem m_L_does {d : Nat} {C : Nat → Nat → Int32} {p : Nat → Option Nat} {G : aGl} {v : Int32} (hg : gG G) (hs : seeG C p G) : am_Call (d + 8) 167 [.ref 0, .int v] (am_w zN C p) (am_Ret zN anyP) := by
  have fin : ∀ {x : Int32 × aGl} {C' : Nat → Nat → Int32} {p' : Nat → Option Nat}, gG x.2 → -2000005 ≤ x.1.toInt → seeG C' p' x.2 → am_Ret zN anyP (some (.int x.1)) (am_w zN C' p') := fun {x C' p'} h1 h2 h3 => ⟨C', p', rfl, x.1, x.2, rfl, h2, h1, h3⟩
  apply e_L_does
  refine s_L_does_0 (use_I (m_L_low (by decide)) (s_L_does_7 (use_I (m_L_low (by decide)) (s_L_does_15 (use_I (m_L_low (by decide)) (s_L_does_24 ?_))))))
  refine ⟨fun _ => use_F (m_count hg hs) (fun C1 p1 hs1 _ => s_L_does_113 ⟨fun _ => use_F (m_begin hg hs1) (fun C2 p2 hs2 _ => s_L_does_129 (fin (gG_oBegin hg) (lo_oBegin hg) hs2)), fun _ => use_F (m_setUp hg hs1) (fun C2 p2 hs2 _ => s_L_does_121 (s_L_does_129 (fin (gG_oSetUp hg) (lo_oSetUp hg) hs2)))⟩), fun _ => ?_⟩
  refine ⟨fun _ => use_F (m_begin hg hs) (fun C2 p2 hs2 _ => s_L_does_135 (fin (gG_oBegin hg) (lo_oBegin hg) hs2)), fun _ => ?_⟩
  have pt : ∀ (x2 x3 x4 x5 y0 y1 y2 y3 y4 y5 y6 y7 : Int32), am_Ci (d + 7) 165 [.int (v >>> ((11 : Int32) &&& 31)), .int (81 : Int32)] (am_w zN C p) (fun w w1 => am_At (d + 7 + 1) 167 none (am_Ret zN anyP) 157 [some (.ref 0), some (.int v), some (.int x2), some (.int x3), some (.int x4), some (.int x5)] [.int w, .int y7, .int y6, .int y5, .int y4, .int y3, .int y2, .int y1, .ref 0] w1 (0, 0)) := fun x2 x3 x4 x5 y0 y1 y2 y3 y4 y5 y6 y7 =>
    use_I (m_L_low (by decide)) (s_L_does_157 (use_I m_L_reading (s_L_does_163 (use_F (m_point hg hs) (fun C2 p2 hs2 _ => s_L_does_166 (fin (gG_oPoint hg) (lo_oPoint hg) hs2))))))
  refine ⟨fun _ => pt _ _ _ _ 0 _ _ _ _ _ _ _, fun _ => ?_⟩
  refine ⟨fun _ => pt _ _ _ _ 0 _ _ _ _ _ _ _, fun _ => ?_⟩
  refine ⟨fun _ => pt _ _ _ _ 0 _ _ _ _ _ _ _, fun _ => ?_⟩
  refine ⟨fun _ => pt _ _ _ _ 0 _ _ _ _ _ _ _, fun _ => ?_⟩
  refine ⟨fun _ => pt _ _ _ _ 0 _ _ _ _ _ _ _, fun _ => ?_⟩
  refine ⟨fun _ => pt _ _ _ _ 0 _ _ _ _ _ _ _, fun _ => ?_⟩
  refine ⟨fun _ => use_I (m_L_low (by decide)) (s_L_does_181 (use_F (m_close hg hs) (fun C2 p2 hs2 _ => s_L_does_184 (fin (gG_oClose hg) lo_oClose hs2)))), fun _ => ?_⟩
  refine ⟨fun _ => ⟨fun _ => use_F (m_strike (Or.inl rfl) hg hs) (fun C2 p2 hs2 _ => s_L_does_210 (fin (gG_oStrike (Or.inl rfl) hg) (lo_oStrike (Or.inl rfl) hg) hs2)), fun _ => use_F (m_strike (Or.inr rfl) hg hs) (fun C2 p2 hs2 _ => s_L_does_210 (fin (gG_oStrike (Or.inr rfl) hg) (lo_oStrike (Or.inr rfl) hg) hs2))⟩, fun _ => ?_⟩
  refine ⟨fun _ => use_F (m_wipe hg hs) (fun C2 p2 hs2 _ => s_L_does_219 (fin (gG_oWipe hg) lo_oWipe hs2)), fun _ => ?_⟩
  refine ⟨fun _ => use_F (m_clean hg hs) (fun C2 p2 hs2 _ => s_L_does_225 (fin (gG_oClean hg) lo_oClean hs2)), fun _ => ?_⟩
  refine ⟨fun _ => use_I (m_L_low (by decide)) (s_L_does_236 (use_F (m_setLimit hg hs) (fun C2 p2 hs2 _ => s_L_does_240 (fin (gG_oSetLimit hg) (lo_oSetLimit hg) hs2)))), fun _ => ?_⟩
  refine ⟨fun _ => use_I (m_L_low (by decide)) (s_L_does_251 (use_I (m_L_low (by decide)) (s_L_does_260 (use_F (m_centre hg hs) (fun C2 p2 hs2 _ => s_L_does_263 (fin (gG_oCentre hg) (lo_oCentre hg) hs2)))))), fun _ => ?_⟩
  exact use_I (m_L_low (by decide)) (s_L_does_278 (use_F (m_setDistance hg hs) (fun C2 p2 hs2 _ => s_L_does_282 (fin (gG_oSetDistance hg) (lo_oSetDistance hg) hs2))))
