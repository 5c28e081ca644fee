/-! THE MODEL: what a row of its numbers says; the inner methods -/
def fbs (u r f : Nat) : Nat := 8 + 255 * u + 3 + 42 * r + 21 * f
theorem fbs_lt {u r f : Nat} (hu : u < 4) (hr : r < 6) (hf : f < 2) : fbs u r f + 21 ≤ 1028 := by unfold fbs; omega
/-- the face at b of s is f -/
def mrow (s : Nat → Int32) (b : Nat) (f : aFace) : Prop := s b = nI f.1 ∧ (s (b + 1) = 0 ∨ s (b + 1) = 1) ∧ fM s b = f ∧ (f.2.2.2.2 = -1 ↔ s (b + 1) = 0)
/-- the row s says A -/
def seesM (s : Nat → Int32) (A : aS) : Prop := s 0 = nI A.1 ∧ s 1 = A.2.1 ∧ (∀ t, t < 6 → s (2 + t) = aD A t) ∧ (∀ u, u < A.1 → s (8 + 255 * u) = nI (aR A u) ∧ s (8 + 255 * u + 1) = aO A u ∧ s (8 + 255 * u + 2) = aQ A u) ∧ ∀ u r f, u < A.1 → r < aR A u → f < 2 → mrow s (fbs u r f) (aF A (rwn u r f))
theorem pred_toI {n : Nat} (h : n < 5000) : (nI n - 1).toInt = (n : Int) - 1 := by
  cases n with
  | zero => decide
  | succ m => rw [nI_pred, nI_toI (by omega)]; omega
theorem mr_tg {s : Nat → Int32} {b k : Nat} {f : aFace} (h : mrow s b f) (hk : k < f.1) : s (b + 3 + 3 * k) = f.2.1 k ∧ s (b + 4 + 3 * k) = f.2.2.1 k ∧ s (b + 5 + 3 * k) = f.2.2.2.1 k := by
  rw [← h.2.2.1] at hk ⊢
  exact ⟨(fM_tg hk).symm, (fM_rd hk).symm, (fM_sk hk).symm⟩
theorem mr_x {s : Nat → Int32} {b : Nat} {f : aFace} (h : mrow s b f) (h1 : s (b + 1) = 1) : s (b + 2) = f.2.2.2.2 := by
  rw [← h.2.2.1]
  show s (b + 2) = if s (b + 1) = 1 then s (b + 2) else -1
  rw [if_pos h1]
section
variable {d : Nat} {C : Nat → Nat → Int32} {p : Nat → Option Nat} {A : aS}
theorem m_M_in {x lo hi : Int32} {b : Bool} (h : (¬ x < lo ∧ ¬ hi < x) ↔ b = true) : cI (d + 1) 86 [.int x, .int lo, .int hi] C p (bI b) C p := by
  refine e_M_in (s_M_in_0 ⟨fun h1 => ⟨Or.inl rfl, ret_I' ?_ rfl rfl⟩, fun h1 => ⟨fun h2 => ⟨Or.inl rfl, ret_I' ?_ rfl rfl⟩, fun h2 => ⟨Or.inr rfl, ret_I' ?_ rfl rfl⟩⟩⟩)
  · rw [bt (fun e => (h.mpr e).1 h1)]; rfl
  · rw [bt (fun e => (h.mpr e).2 h2)]; rfl
  · rw [h.mp ⟨h1, h2⟩]; rfl
theorem m_M_of {a b : Nat} : cI (d + 1) 87 [.int (nI a), .int (nI b)] C p (nI (8 + 255 * a + b)) C p := by
  refine e_M_of (s_M_of_0 (ret_I' ?_ rfl rfl))
  rw [show (255 : Int32) = nI 255 from rfl, show (8 : Int32) = nI 8 from rfl, nI_mul, nI_add, nI_add]
theorem m_M_faceAt {u r f : Nat} : cI (d + 2) 88 [.int (nI u), .int (nI r), .int (nI f)] C p (nI (fbs u r f)) C p := by
  refine e_M_faceAt (s_M_faceAt_0 (use_I (m_M_of (b := 3)) (s_M_faceAt_5 (ret_I' ?_ rfl rfl))))
  rw [show (42 : Int32) = nI 42 from rfl, show (21 : Int32) = nI 21 from rfl, nI_mul, nI_mul, nI_add, nI_add]
  rfl
theorem in0 {x : Int32} {n : Nat} (h : n < 5000) : (¬ x < 0 ∧ ¬ nI n - 1 < x) ↔ decide (0 ≤ x.toInt ∧ x.toInt < n) = true := by
  rw [decide_eq_true_eq, Int32.lt_iff_toInt_lt, Int32.lt_iff_toInt_lt, i32_0, pred_toI h]
  omega
theorem m_M_isSetUp {u : Int32} (hs : seesM (C 75) A) (hg : good A) : cI (d + 2) 89 [.ref 74, .int u] C p (bI (hsA A u)) C p := by
  apply e_M_isSetUp
  apply s_M_isSetUp_0
  have h4 := hg.1
  rw [show ((0 : Int32).toNatClampNeg) = 0 from rfl, hs.1]
  exact ⟨vpi (n := 0) (by decide) (by decide), use_I (m_M_in (in0 (by omega))) (s_M_isSetUp_13 ⟨bI01 _, ret_I' rfl rfl rfl⟩)⟩
theorem m_M_isRound {u r : Int32} (hs : seesM (C 75) A) (hg : good A) : cI (d + 3) 90 [.ref 74, .int u, .int r] C p (bI (hrA A u r)) C p := by
  apply e_M_isRound
  apply s_M_isRound_0
  refine use_I (m_M_isSetUp hs hg) (s_M_isRound_5 ⟨fun h => ⟨Or.inl rfl, ret_I' ?_ rfl rfl⟩, fun h => ?_⟩)
  · rw [hrA, bI_eq.mp h]; rfl
  · rw [bI_ne] at h
    obtain ⟨n, rfl, hn⟩ := hsA_ok h hg
    have h4 := hg.1
    have h6 := (hg.2.2.2.1 n (by omega)).1
    refine use_I (m_M_of (b := 0)) (s_M_isRound_19 ?_)
    rw [cl (by omega), Nat.add_zero, (hs.2.2.2.1 n hn).1]
    have e : hrA A (nI n) r = decide (0 ≤ r.toInt ∧ r.toInt < aR A n) := by rw [hrA, h, cn_nI (by omega), Bool.true_and]
    refine ⟨vpi (by omega) (by decide), use_I (m_M_in (in0 (by omega))) (s_M_isRound_25 ⟨fun h2 => ⟨Or.inl rfl, ret_I' ?_ rfl rfl⟩, fun h2 => ⟨Or.inr rfl, ret_I' ?_ rfl rfl⟩⟩)⟩
    · rw [e, bI_eq.mp h2]; rfl
    · rw [e, bI_ne.mp h2]; rfl
theorem m_M_isTarget {t : Int32} : cI (d + 2) 91 [.int t] C p (bI (isT t)) C p := by
  apply e_M_isTarget
  apply s_M_isTarget_0
  refine use_I (m_M_in (b := isT t) ?_) (s_M_isTarget_6 ⟨bI01 _, ret_I' rfl rfl rfl⟩)
  have c5 : (5 : Int32).toInt = 5 := by decide
  rw [isT, decide_eq_true_eq, Int32.lt_iff_toInt_lt, Int32.lt_iff_toInt_lt, i32_0, c5]
  omega
theorem m_M_placed {b k w : Nat} : cI (d + 1) 100 [.int (nI b), .int (nI k), .int (nI w)] C p (nI (b + 3 + 3 * k + w)) C p := by
  refine e_M_placed (s_M_placed_0 (ret_I' ?_ rfl rfl))
  rw [show (3 : Int32) = nI 3 from rfl, nI_mul, nI_add, nI_add, nI_add]
theorem nI_p0 (b : Nat) : nI b + 0 = nI b := by rw [show (0 : Int32) = nI 0 from rfl, nI_add, Nat.add_zero]
theorem nI_p2 (b : Nat) : nI b + 2 = nI (b + 2) := by rw [show (2 : Int32) = nI 2 from rfl, nI_add]
theorem m_M_placeOf {b : Nat} {f : aFace} {t : Int32} (hb : b + 21 ≤ 1028) (hm : mrow (C 75) b f) (hf : fok f) : cI (d + 2) 101 [.ref 74, .int (nI b), .int t] C p (oI (-2000005) (plc f t)) C p := by
  have h6 := hf.1
  have loop : ∀ m k, k + m = f.1 → am_At (d + 2) 101 none (am_Ret (am_eI (oI (-2000005) (fd f.2.1 t k m)) C p)) 2 [some (.ref 74), some (.int (nI b)), some (.int t), some (.int (nI k))] [] (am_w C p) (0, 0) := by
    intro m
    induction m with
    | zero =>
      intro k hk
      apply s_M_placeOf_2
      rw [nI_p0, cl (by omega), hm.1]
      exact ⟨vpi (by omega) (by decide), fun _ => ret_I, fun h => absurd ((le5 (by omega) (by omega)).mpr (by omega)) h⟩
    | succ m ih =>
      intro k hk
      apply s_M_placeOf_2
      rw [nI_p0, cl (by omega), hm.1]
      refine ⟨vpi (by omega) (by decide), fun h => absurd ((le5 (by omega) (by omega)).mp h) (by omega), fun _ => use_I (m_M_placed (w := 0)) (s_M_placeOf_24 ?_)⟩
      rw [cl (by omega), Nat.add_zero, (mr_tg hm (by omega)).1, nI_1]
      refine ⟨vpi (by omega) (by decide), fun h => ?_, fun h => ?_⟩
      · rw [fd, if_neg h]
        exact ih (k + 1) (by omega)
      · rw [fd, if_pos h]
        exact ret_I
  exact e_M_placeOf (s_M_placeOf_0 (loop f.1 0 (by omega)))
theorem m_M_drift {b : Nat} {f : aFace} (hb : b + 21 ≤ 1028) (hm : mrow (C 75) b f) (h1 : C 75 (b + 1) = 1) (hn : 0 < f.1) : cI (d + 3) 102 [.ref 74, .int (nI b)] C p (drf f) C p := by
  apply e_M_drift
  apply s_M_drift_0
  rw [nI_p2, cl (by omega)]
  refine ⟨vpi (by omega) (by decide), use_I (m_M_placed (k := 0) (w := 1)) (s_M_drift_18 ?_)⟩
  rw [cl (by omega), show b + 3 + 3 * 0 + 1 = b + 4 + 3 * 0 by omega, (mr_tg hm hn).2.1, mr_x hm h1]
  exact ⟨vpi (by omega) (by decide), use_I m_M_near (s_M_drift_23 (ret_I' rfl rfl rfl))⟩
theorem m_M_corrected {b k : Nat} {f : aFace} (hb : b + 21 ≤ 1028) (hm : mrow (C 75) b f) (hf : fok f) (hk : k < f.1) : cI (d + 4) 103 [.ref 74, .int (nI b), .int (nI k)] C p (cor f k) C p := by
  have h6 := hf.1
  have fin : ∀ y : Int32, cor f k = f.2.2.1 k - y → am_At (d + 4) 103 none (am_Ret (am_eI (cor f k) C p)) 34 [some (.ref 74), some (.int (nI b)), some (.int (nI k)), none] [.int y] (am_w C p) (0, 0) := by
    intro y hy
    apply s_M_corrected_34
    refine use_I (m_M_placed (w := 1)) (s_M_corrected_45 ?_)
    rw [cl (by omega), show b + 3 + 3 * k + 1 = b + 4 + 3 * k by omega, (mr_tg hm hk).2.1]
    exact ⟨vpi (by omega) (by decide), ret_I' hy.symm rfl rfl⟩
  apply e_M_corrected
  apply s_M_corrected_0
  rw [nI_1, cl (by omega)]
  refine ⟨vpi (by omega) (by decide), fun h => fin 0 ?_, fun h => use_I (m_M_drift hb hm h (by omega)) (s_M_corrected_17 ?_)⟩
  · have h0 := hm.2.2.2.mpr (hm.2.1.resolve_right h)
    rw [cor, if_pos h0, Int32.sub_zero]
  · have h0 : ¬ f.2.2.2.2 = -1 := fun e => by
      have := hm.2.2.2.mp e
      rw [h] at this
      exact absurd this (by decide)
    rw [nI_p0, cl (by omega), hm.1]
    refine ⟨vpi (by omega) (by decide), use_I (m_M_divided ?_) (s_M_corrected_30 (fin _ ?_))⟩
    · rw [nI_toI (by omega)]; omega
    · rw [cor, if_neg h0]
theorem m_M_struckIn {b : Nat} {f : aFace} (hb : b + 21 ≤ 1028) (hm : mrow (C 75) b f) (hf : fok f) : cI (d + 2) 104 [.ref 74, .int (nI b)] C p (nI (skn f)) C p := by
  have h6 := hf.1
  have loop : ∀ m k a, k + m = f.1 → a + cnt f.2.2.2.1 k m = skn f → am_At (d + 2) 104 none (am_Ret (am_eI (nI (skn f)) C p)) 4 [some (.ref 74), some (.int (nI b)), some (.int (nI a)), some (.int (nI k))] [] (am_w C p) (0, 0) := by
    intro m
    induction m with
    | zero =>
      intro k a hk ha
      apply s_M_struckIn_4
      rw [nI_p0, cl (by omega), hm.1]
      exact ⟨vpi (by omega) (by decide), fun _ => ret_I' (by rw [← ha]; rfl) rfl rfl, fun h => absurd ((le5 (by omega) (by omega)).mpr (by omega)) h⟩
    | succ m ih =>
      intro k a hk ha
      simp only [cnt] at ha
      apply s_M_struckIn_4
      rw [nI_p0, cl (by omega), hm.1]
      refine ⟨vpi (by omega) (by decide), fun h => absurd ((le5 (by omega) (by omega)).mp h) (by omega), fun _ => use_I (m_M_placed (w := 2)) (s_M_struckIn_27 ?_)⟩
      rw [cl (by omega), show b + 3 + 3 * k + 2 = b + 5 + 3 * k by omega, (mr_tg hm (by omega)).2.2, nI_1]
      refine ⟨vpi (by omega) (by decide), ?_⟩
      rcases hf.2.2.1 k (by omega) with e | e
      · rw [e] at ha ⊢
        rw [nI_p0]
        rw [if_pos rfl] at ha
        exact ih (k + 1) a (by omega) (by omega)
      · rw [e] at ha ⊢
        rw [nI_1]
        rw [if_neg (by decide)] at ha
        exact ih (k + 1) (a + 1) (by omega) (by omega)
  exact e_M_struckIn (s_M_struckIn_0 (loop f.1 0 0 (by omega) (by rw [Nat.zero_add]; rfl)))
end
