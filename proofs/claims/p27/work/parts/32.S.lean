/-! State's methods on the state at 1 -/
variable {zN : Nat}
section
variable {d : Nat} {C : Nat → Nat → Int32} {p : Nat → Option Nat}
def hsu (C : Nat → Nat → Int32) (u : Int32) : Bool := decide (¬ u < 0 ∧ ¬ C 1 0 ≤ u)
def hrd (C : Nat → Nat → Int32) (u r : Int32) : Bool := hsu C u && decide (¬ r < 0 ∧ ¬ C 2 u.toNatClampNeg ≤ r)
theorem m_S_hasSetUp {u : Int32} : cI zN (d + 1) 32 [.ref 1, .int u] C p (bI (hsu C u)) C p := by
  refine e_S_hasSetUp (s_S_hasSetUp_0 ⟨fun h => ⟨Or.inl rfl, ret_I' ?_ rfl rfl⟩, fun h => ⟨fun h2 => ⟨Or.inl rfl, ret_I' ?_ rfl rfl⟩, fun h2 => ⟨Or.inr rfl, ret_I' ?_ rfl rfl⟩⟩⟩)
  · simp [hsu, h, bI]
  · simp only [hsu, h2, not_true_eq_false, and_false, decide_false, bI]; rfl
  · simp only [hsu, h, h2, not_false_eq_true, and_self, decide_true, bI]; rfl
theorem hsu_in {u : Int32} (h4 : C 1 0 ≤ 4) (h : hsu C u = true) : vp_in u 4 := by
  simp only [hsu, decide_eq_true_eq] at h
  rw [vp_in_iff]
  have h1 : (0 : Int32).toInt = 0 := by decide
  have h2 : (4 : Int32).toInt = 4 := by decide
  rw [Int32.lt_iff_toInt_lt, Int32.le_iff_toInt_le] at h
  rw [Int32.le_iff_toInt_le] at h4
  omega
theorem m_S_hasRound {u r : Int32} (h4 : C 1 0 ≤ 4) : cI zN (d + 2) 33 [.ref 1, .int u, .int r] C p (bI (hrd C u r)) C p := by
  refine e_S_hasRound (s_S_hasRound_0 (use_I m_S_hasSetUp (s_S_hasRound_5 ⟨fun h => ⟨Or.inl rfl, ret_I' ?_ rfl rfl⟩, fun h => ⟨fun h2 => ⟨Or.inl rfl, ret_I' ?_ rfl rfl⟩, fun h2 => ⟨hsu_in h4 (bI_ne.mp h), fun h3 => ⟨Or.inl rfl, ret_I' ?_ rfl rfl⟩, fun h3 => ⟨Or.inr rfl, ret_I' ?_ rfl rfl⟩⟩⟩⟩)))
  · rw [hrd, bI_eq.mp h]; rfl
  · simp only [hrd, h2, not_true_eq_false, false_and, decide_false, Bool.and_false, bI]; rfl
  · simp only [hrd, h3, not_true_eq_false, and_false, decide_false, Bool.and_false, bI]; rfl
  · simp only [hrd, bI_ne.mp h, h2, h3, not_false_eq_true, and_self, decide_true, Bool.and_true, bI]; rfl
theorem m_S_isClosed {row : Nat} (hr : row < 48) : cI zN (d + 1) 34 [.ref 1, .int (nI row)] C p (bI (decide ((fS 1 C row).2.2.2.2 ≠ -1))) C p := by
  apply e_S_isClosed
  apply s_S_isClosed_0
  rw [cl (by omega)]
  refine ⟨vpi hr (by decide), fun h => ⟨Or.inl rfl, ret_I' ?_ rfl rfl⟩, fun h => ⟨Or.inr rfl, ret_I' ?_ rfl rfl⟩⟩
  · have h' : (fS 1 C row).2.2.2.2 = -1 := h
    simp [h', bI]
  · have h' : ¬ (fS 1 C row).2.2.2.2 = -1 := h
    simp [h', bI]
theorem m_S_placeOf {row : Nat} {t : Int32} (hr : row < 48) (hc : cok 1 C row) : cI zN (d + 1) 35 [.ref 1, .int (nI row), .int t] C p (oI (-1) (plc (fS 1 C row) t)) C p := by
  obtain ⟨h1, h2, -⟩ := hc
  have loop : ∀ m k, k + m = (fS 1 C row).1 → am_At (d + 1) 35 none (am_Ret zN (am_eI (oI (-1) (fd (fS 1 C row).2.1 t k m)) C p)) 2 [some (.ref 1), some (.int (nI row)), some (.int t), some (.int (nI k))] [] (am_w zN C p) (0, 0) := by
    intro m
    induction m with
    | zero =>
      intro k hk
      apply s_S_placeOf_2
      rw [cl (by omega), show C 6 row = nI (fS 1 C row).1 from h1]
      exact ⟨vpi hr (by decide), fun _ => ret_I, fun h => absurd ((le5 (by omega) (by omega)).mpr (by omega)) h⟩
    | succ m ih =>
      intro k hk
      apply s_S_placeOf_2
      rw [cl (n := row) (by omega), show C 6 row = nI (fS 1 C row).1 from h1, ix6, cl (n := row * 6 + k) (by omega)]
      have hk1 : (fS 1 C row).2.1 k = C 8 (row * 6 + k) := fS_tg (by omega)
      refine ⟨vpi hr (by decide), fun h => ?_, fun h => ⟨vpi (by omega) (by decide), fun hne => ?_, fun he => ?_⟩⟩
      · rw [le5 (by omega) (by omega)] at h
        omega
      · rw [fd, if_neg (by rw [hk1]; exact hne), show nI k + 1 = nI (k + 1) from nI_1 k]
        exact ih (k + 1) (by omega)
      · rw [fd, if_pos (by rw [hk1]; exact he)]
        exact ret_I
  exact e_S_placeOf (s_S_placeOf_0 (loop _ 0 (by omega)))
theorem oI_none {o : Option Nat} {n : Nat} (hn : n ≤ 4000) (h : ∀ k, o = some k → k < n) : oI (-1) o = -1 ↔ o = none := by
  cases o with
  | none => simp [oI]
  | some k =>
    have := h k rfl
    simp only [oI, reduceCtorEq, iff_false]
    exact (nI_ne (by omega)).1
theorem plc_m1 {f : aFace} {t : Int32} (h : f.1 ≤ 6) : oI (-1) (plc f t) = -1 ↔ plc f t = none := oI_none (n := 6) (by decide) (fun k hk => Nat.lt_of_lt_of_le (plc_lt hk).1 h)
theorem m_S_canTake {row : Nat} {t : Int32} (hr : row < 48) (hc : cok 1 C row) : cI zN (d + 2) 36 [.ref 1, .int (nI row), .int t] C p (bI (decide ((fS 1 C row).2.2.2.2 = -1 ∧ plc (fS 1 C row) t = none))) C p := by
  refine e_S_canTake (s_S_canTake_0 (use_I (m_S_isClosed hr) (s_S_canTake_5 ⟨fun h => ⟨Or.inl rfl, ret_I' ?_ rfl rfl⟩, fun h => use_I (m_S_placeOf hr hc) (s_S_canTake_14 ⟨fun h2 => ⟨Or.inl rfl, ret_I' ?_ rfl rfl⟩, fun h2 => ⟨Or.inr rfl, ret_I' ?_ rfl rfl⟩⟩)⟩)))
  · rw [bI_ne, decide_eq_true_eq] at h
    simp [h, bI]
  · rw [plc_m1 hc.2.1] at h2
    simp [h2, bI]
  · rw [plc_m1 hc.2.1] at h2
    rw [bI_eq, decide_eq_false_iff_not, Classical.not_not] at h
    simp [h, h2, bI]
theorem m_F_rowOf {u r f : Nat} : cI zN (d + 1) 78 [.int (nI u), .int (nI r), .int (nI f)] C p (nI ((u * 6 + r) * 2 + f)) C p := by
  refine e_F_rowOf (s_F_rowOf_0 (ret_I' ?_ rfl rfl))
  rw [ix6, show (2 : Int32) = nI 2 from rfl, nI_mul, nI_add]
end
section
variable {d : Nat} {C : Nat → Nat → Int32} {p : Nat → Option Nat}
theorem nar0 : vp_nar .boolean 0 = 0 := by decide
theorem nar1 : vp_nar .boolean 1 = 1 := by decide
def addC (C : Nat → Nat → Int32) (row n : Nat) (t rd : Int32) : Nat → Nat → Int32 := am_u2 (am_u2 (am_u2 (am_u2 C 8 (row * 6 + n) t) 9 (row * 6 + n) rd) 10 (row * 6 + n) 0) 6 row (nI (n + 1))
theorem m_S_add {row n : Nat} {t rd : Int32} (hr : row < 48) (hn : C 6 row = nI n) (h6 : n < 6) : cV zN (d + 1) 37 [.ref 1, .int (nI row), .int t, .int rd] C p (addC C row n t rd) p := by
  apply e_S_add
  apply s_S_add_0
  rw [cl (n := row) (by omega), hn, ix6, cl (n := row * 6 + n) (by omega)]
  have hv := vpi (n := row) (N := 48) hr (by decide)
  have hv2 := vpi (n := row * 6 + n) (N := 288) (by omega) (by decide)
  refine ⟨hv, fun _ => ⟨hv, hv2, hv2, hv2, hv, hv, ret_V' ?_ rfl⟩, fun h => absurd ((lt5 (b := 6) (by omega) (by omega)).mpr h6) h⟩
  rw [nar0]
  have e : am_u2 (am_u2 (am_u2 C 8 (row * 6 + n) t) 9 (row * 6 + n) rd) 10 (row * 6 + n) 0 6 row = nI n := by
    rw [am_u2_ne (by decide), am_u2_ne (by decide), am_u2_ne (by decide), hn]
  rw [e, nI_1]
  rfl
/-- what lies behind place lo moves up by one, as far as hi -/
def shf (C : Nat → Nat → Int32) (lo hi : Nat) : Nat → Nat → Int32 := fun a i => if (a = 8 ∨ a = 9 ∨ a = 10) ∧ lo ≤ i ∧ i < hi then C a (i + 1) else C a i
def rmvC (C : Nat → Nat → Int32) (row n k : Nat) : Nat → Nat → Int32 := shf (am_u2 C 6 row (nI (n - 1))) (row * 6 + k) (row * 6 + (n - 1))
theorem nar01 {x : Int32} (h : x = 0 ∨ x = 1) : vp_nar .boolean x = x := by
  rcases h with h | h <;> rw [h]
  · exact nar0
  · exact nar1
theorem am_u2_at {C : Nat → Nat → Int32} {i k : Nat} {x : Int32} (a b : Nat) : am_u2 C i k x a b = if a = i ∧ b = k then x else C a b := by
  unfold am_u2
  by_cases h1 : a = i <;> by_cases h2 : b = k <;> simp [h1, h2]
theorem shf_step {C : Nat → Nat → Int32} {lo i : Nat} (hlo : lo ≤ i) :
    am_u2 (am_u2 (am_u2 (shf C lo i) 8 i (shf C lo i 8 (i + 1))) 9 i (am_u2 (shf C lo i) 8 i (shf C lo i 8 (i + 1)) 9 (i + 1))) 10 i (C 10 (i + 1)) = shf C lo (i + 1) := by
  funext a b
  simp only [am_u2_at, shf]
  by_cases hb : b = i
  · subst hb
    by_cases h10 : a = 10
    · subst h10
      simp [hlo]
    · by_cases h9 : a = 9
      · subst h9
        simp [hlo, show ¬ (b + 1 < b) by omega]
      · by_cases h8 : a = 8
        · subst h8
          simp [hlo, show ¬ (b + 1 < b) by omega]
        · simp [h8, h9, h10]
  · have e : (b < i ↔ b < i + 1) := by omega
    simp [hb, e]
theorem m_S_remove {row : Nat} {t : Int32} (hr : row < 48) (hc : cok 1 C row) : cV zN (d + 2) 38 [.ref 1, .int (nI row), .int t] C p (match plc (fS 1 C row) t with
    | some k => rmvC C row (fS 1 C row).1 k
    | none => C) p := by
  apply e_S_remove
  apply s_S_remove_0
  refine use_I (m_S_placeOf hr hc) ?_
  apply s_S_remove_6
  obtain ⟨h1, h2, -, h3, -⟩ := hc
  have h1' : C 6 row = nI (fS 1 C row).1 := h1
  rw [plc_m1 h2, cl (n := row) (by omega), h1']
  refine ⟨fun h => ?_, fun h => ?_⟩
  · cases hk : plc (fS 1 C row) t with
    | none => exact absurd hk h
    | some k =>
      have hkn := (plc_lt hk).1
      have hv := vpi (n := row) (N := 48) hr (by decide)
      refine ⟨hv, hv, ?_⟩
      generalize hn : (fS 1 C row).1 = n at *
      have e1 : nI n - 1 = nI (n - 1) := by
        obtain ⟨m, rfl⟩ : ∃ m, n = m + 1 := ⟨n - 1, by omega⟩
        exact nI_pred m
      rw [e1]
      simp only [oI]
      rw [ix6]
      have hsk : ∀ j, j < n → C 10 (row * 6 + j) = 0 ∨ C 10 (row * 6 + j) = 1 := by
        intro j hj
        have := h3 j hj
        rw [fS_sk (by rw [hn]; exact hj)] at this
        exact this
      have loop : ∀ m i, i + m = row * 6 + (n - 1) → row * 6 + k ≤ i → am_At (d + 2) 38 none (am_Ret zN (am_eV (rmvC C row n k) p)) 31 [some (.ref 1), some (.int (nI row)), some (.int t), some (.int (nI k)), some (.int (nI i))] [] (am_w zN (shf (am_u2 C 6 row (nI (n - 1))) (row * 6 + k) i) p) (0, 0) := by
        intro m
        induction m with
        | zero =>
          intro i hi hlo
          apply s_S_remove_31
          have e6 : shf (am_u2 C 6 row (nI (n - 1))) (row * 6 + k) i 6 row = nI (n - 1) := by simp [shf, am_u2]
          rw [cl (n := row) (by omega), e6, ix6]
          refine ⟨hv, fun _ => ret_V' ?_ rfl, fun h => absurd ((le5 (by omega) (by omega)).mpr (by omega)) h⟩
          rw [rmvC, ← hi]
          rfl
        | succ m ih =>
          intro i hi hlo
          apply s_S_remove_31
          have e6 : shf (am_u2 C 6 row (nI (n - 1))) (row * 6 + k) i 6 row = nI (n - 1) := by simp [shf, am_u2]
          rw [cl (n := row) (by omega), e6, ix6, nI_1, cl (n := i) (by omega), cl (n := i + 1) (by omega)]
          have hv1 := vpi (n := i) (N := 288) (by omega) (by decide)
          have hv2 := vpi (n := i + 1) (N := 288) (by omega) (by decide)
          refine ⟨hv, fun h => ?_, fun _ => ⟨hv2, hv1, hv2, hv1, hv2, hv1, ?_⟩⟩
          · rw [le5 (by omega) (by omega)] at h
            omega
          · have e10 : am_u2 (am_u2 (shf (am_u2 C 6 row (nI (n - 1))) (row * 6 + k) i) 8 i (shf (am_u2 C 6 row (nI (n - 1))) (row * 6 + k) i 8 (i + 1))) 9 i (am_u2 (shf (am_u2 C 6 row (nI (n - 1))) (row * 6 + k) i) 8 i (shf (am_u2 C 6 row (nI (n - 1))) (row * 6 + k) i 8 (i + 1)) 9 (i + 1)) 10 (i + 1) = am_u2 C 6 row (nI (n - 1)) 10 (i + 1) := by
              simp [am_u2_at, shf, show ¬ (i + 1 < i) by omega]
            have e10' : am_u2 C 6 row (nI (n - 1)) 10 (i + 1) = C 10 (i + 1) := by simp [am_u2_at]
            have hnr : vp_nar .boolean (C 10 (i + 1)) = C 10 (i + 1) := by
              have := hsk (i + 1 - row * 6) (by omega)
              rw [show row * 6 + (i + 1 - row * 6) = i + 1 by omega] at this
              exact nar01 this
            rw [e10, e10', hnr, ← e10', shf_step hlo]
            exact ih (i + 1) (by omega) (by omega)
      have h0 : am_u2 C 6 row (nI (n - 1)) = shf (am_u2 C 6 row (nI (n - 1))) (row * 6 + k) (row * 6 + k) := by
        funext a b
        simp only [shf]
        rw [if_neg (by omega)]
      rw [h0]
      exact loop (n - 1 - k) (row * 6 + k) (by omega) (Nat.le_refl _)
  · rw [h]
    exact ret_V' rfl rfl
def stkC (C : Nat → Nat → Int32) (row : Nat) (t : Int32) : Nat → Nat → Int32 := match plc (fS 1 C row) t with
  | some k => am_u2 C 10 (row * 6 + k) 1
  | none => C
theorem m_S_strikeBoth {u r : Nat} {t : Int32} (hr : (u * 6 + r) * 2 + 1 < 48) (hc0 : cok 1 C ((u * 6 + r) * 2)) (hc1 : cok 1 (stkC C ((u * 6 + r) * 2) t) ((u * 6 + r) * 2 + 1)) :
    cV zN (d + 2) 39 [.ref 1, .int (nI u), .int (nI r), .int t] C p (stkC (stkC C ((u * 6 + r) * 2) t) ((u * 6 + r) * 2 + 1) t) p := by
  have one : ∀ (f : Nat) (C : Nat → Nat → Int32) (o5 o6 : Option Value) (Post : Option Value → aW → Prop), f < 2 → cok 1 C ((u * 6 + r) * 2 + f) → (∀ o5' o6', am_At (d + 2) 39 none Post 3 [some (.ref 1), some (.int (nI u)), some (.int (nI r)), some (.int t), some (.int (nI (f + 1))), o5', o6'] [] (am_w zN (stkC C ((u * 6 + r) * 2 + f) t) p) (0, 0)) →
      am_At (d + 2) 39 none Post 3 [some (.ref 1), some (.int (nI u)), some (.int (nI r)), some (.int t), some (.int (nI f)), o5, o6] [] (am_w zN C p) (0, 0) := by
    intro f C o5 o6 Post hf hc hk
    apply s_S_strikeBoth_3
    refine ⟨fun h => ?_, fun _ => use_I m_F_rowOf (s_S_strikeBoth_16 (use_I (m_S_placeOf (by omega) hc) (s_S_strikeBoth_25 ⟨fun h => ?_, fun h => ?_⟩)))⟩
    · have := (le5 (a := 2) (b := f) (by omega) (by omega)).mp h
      omega
    · rw [plc_m1 hc.2.1] at h
      rw [nI_1]
      have := hk (some (.int (nI ((u * 6 + r) * 2 + f)))) (some (.int (oI (-1) (plc (fS 1 C ((u * 6 + r) * 2 + f)) t))))
      rw [stkC, h] at this
      rw [h]
      exact this
    · rw [plc_m1 hc.2.1] at h
      cases hp : plc (fS 1 C ((u * 6 + r) * 2 + f)) t with
      | none => exact absurd hp h
      | some k =>
        have hkn := (plc_lt hp).1
        have h6 := hc.2.1
        simp only [oI]
        rw [ix6, nI_1, cl (by omega), nar1]
        refine ⟨vpi (by omega) (by decide), ?_⟩
        have := hk (some (.int (nI ((u * 6 + r) * 2 + f)))) (some (.int (nI k)))
        rw [stkC, hp] at this
        exact this
  apply e_S_strikeBoth
  apply s_S_strikeBoth_0
  refine one 0 C none none _ (by decide) hc0 (fun o5 o6 => one 1 _ o5 o6 _ (by decide) hc1 (fun o5 o6 => s_S_strikeBoth_3 ⟨fun _ => ret_V' rfl rfl, fun h => absurd (by decide) h⟩))
theorem m_S_driftOf {row : Nat} (hr : row < 48) : cI zN (d + 2) 40 [.ref 1, .int (nI row)] C p (nr (C 7 row - C 9 (row * 6))) C p := by
  apply e_S_driftOf
  apply s_S_driftOf_0
  rw [ix60, cl (n := row) (by omega), cl (n := row * 6) (by omega)]
  exact ⟨vpi hr (by decide), vpi (by omega) (by decide), use_I m_F_nearZero (s_S_driftOf_19 ret_I)⟩
theorem m_S_corrected {row k : Nat} (hr : row < 48) (hc : cok 1 C row) (hk : k < (fS 1 C row).1) : cI zN (d + 3) 41 [.ref 1, .int (nI row), .int (nI k)] C p (cor (fS 1 C row) k) C p := by
  obtain ⟨h1, h2, -⟩ := hc
  have h1' : C 6 row = nI (fS 1 C row).1 := h1
  have hrd : (fS 1 C row).2.2.1 k = C 9 (row * 6 + k) := fS_rd hk
  have hrd0 : (fS 1 C row).2.2.1 0 = C 9 (row * 6) := fS_rd (by omega)
  apply e_S_corrected
  apply s_S_corrected_0
  rw [cl (n := row) (by omega), h1', ix6, cl (n := row * 6 + k) (by omega)]
  refine ⟨fun h => absurd h (nI_pos (by omega)), fun _ => ⟨vpi hr (by decide), fun _ => ⟨vpi (by omega) (by decide), use_I (m_S_isClosed hr) (s_S_corrected_33 ⟨fun h => ?_, fun h => ?_⟩)⟩, fun h => absurd ((lt5 (by omega) (by omega)).mpr hk) h⟩⟩
  · rw [bI_ne, decide_eq_true_eq] at h
    refine use_I (m_S_driftOf hr) ?_
    apply s_S_corrected_44
    rw [cl (n := row) (by omega), h1']
    refine ⟨vpi hr (by decide), use_I (m_J_floorDiv ?_) (s_S_corrected_55 (ret_I' ?_ rfl rfl))⟩
    · rw [nI_toI (by omega)]
      omega
    · rw [cor, if_neg h, drf, hrd, hrd0]
      rfl
  · rw [bI_eq, decide_eq_false_iff_not, Classical.not_not] at h
    refine ret_I' ?_ rfl rfl
    rw [cor, if_pos h, hrd]
theorem m_S_struckIn {row : Nat} (hr : row < 48) (hc : cok 1 C row) : cI zN (d + 1) 44 [.ref 1, .int (nI row)] C p (nI (skn (fS 1 C row))) C p := by
  obtain ⟨h1, h2, -⟩ := hc
  have h1' : C 6 row = nI (fS 1 C row).1 := h1
  have loop : ∀ m k a, k + m = (fS 1 C row).1 → a + cnt (fS 1 C row).2.2.2.1 k m = skn (fS 1 C row) → am_At (d + 1) 44 none (am_Ret zN (am_eI (nI (skn (fS 1 C row))) C p)) 4 [some (.ref 1), some (.int (nI row)), some (.int (nI a)), some (.int (nI k))] [] (am_w zN C p) (0, 0) := by
    intro m
    induction m with
    | zero =>
      intro k a hk ha
      apply s_S_struckIn_4
      rw [cl (by omega), h1']
      refine ⟨vpi hr (by decide), fun _ => ret_I' (by rw [← ha]; rfl) rfl rfl, fun h => absurd ((le5 (by omega) (by omega)).mpr (by omega)) h⟩
    | succ m ih =>
      intro k a hk ha
      have hsk : (fS 1 C row).2.2.2.1 k = C 10 (row * 6 + k) := fS_sk (by omega)
      apply s_S_struckIn_4
      rw [cl (n := row) (by omega), h1', ix6, cl (n := row * 6 + k) (by omega), nI_1, nI_1]
      refine ⟨vpi hr (by decide), fun h => ?_, fun _ => ⟨vpi (by omega) (by decide), fun h => ?_, fun h => ?_⟩⟩
      · rw [le5 (by omega) (by omega)] at h
        omega
      · exact ih (k + 1) a (by omega) (by rw [← ha, cnt, if_pos (by rw [hsk]; exact h)]; omega)
      · exact ih (k + 1) (a + 1) (by omega) (by rw [← ha, cnt, if_neg (by rw [hsk]; exact h)]; omega)
  exact e_S_struckIn (s_S_struckIn_0 (loop (fS 1 C row).1 0 0 (by omega) (by rw [skn]; omega)))
theorem m_S_struckInRound {u r : Nat} (hr : (u * 6 + r) * 2 + 1 < 48) (hc0 : cok 1 C ((u * 6 + r) * 2)) (hc1 : cok 1 C ((u * 6 + r) * 2 + 1)) : cI zN (d + 2) 45 [.ref 1, .int (nI u), .int (nI r)] C p (nI (skn (fS 1 C ((u * 6 + r) * 2)) + skn (fS 1 C ((u * 6 + r) * 2 + 1)))) C p := by
  apply e_S_struckInRound
  apply s_S_struckInRound_0
  refine use_I (m_F_rowOf (f := 0)) ?_
  apply s_S_struckInRound_7
  refine use_I (m_S_struckIn (by omega) hc0) ?_
  apply s_S_struckInRound_10
  refine use_I (m_F_rowOf (f := 1)) ?_
  apply s_S_struckInRound_17
  refine use_I (m_S_struckIn (by omega) hc1) ?_
  apply s_S_struckInRound_20
  refine ret_I' ?_ rfl rfl
  rw [nI_add]
  rfl
theorem m_S_ownReason {u r : Nat} {t : Int32} (hr : (u * 6 + r) * 2 + 1 < 48) (hc0 : cok 1 C ((u * 6 + r) * 2)) (hc1 : cok 1 C ((u * 6 + r) * 2 + 1)) : cI zN (d + 2) 43 [.ref 1, .int (nI u), .int (nI r), .int t] C p (nI (own (fS 1 C ((u * 6 + r) * 2)) (fS 1 C ((u * 6 + r) * 2 + 1)) t)) C p := by
  refine e_S_ownReason (s_S_ownReason_0 (use_I (m_F_rowOf (f := 0)) (s_S_ownReason_6 (use_I (m_F_rowOf (f := 1)) (s_S_ownReason_14 (use_I (m_S_placeOf (by omega) hc0) (s_S_ownReason_23 (use_I (m_S_placeOf (by omega) hc1) (s_S_ownReason_32 ?_)))))))))
  simp only [Nat.add_zero]
  rw [plc_m1 hc0.2.1, plc_m1 hc1.2.1]
  refine ⟨fun h0 => ⟨fun h1 => ?_, fun h1 => ret_I' ?_ rfl rfl⟩, fun h0 => ret_I' ?_ rfl rfl⟩
  · cases e0 : plc (fS 1 C ((u * 6 + r) * 2)) t with
    | none => exact absurd e0 h0
    | some a =>
      cases e1 : plc (fS 1 C ((u * 6 + r) * 2 + 1)) t with
      | none => exact absurd e1 h1
      | some b =>
        have ha := (plc_lt e0).1
        have hb := (plc_lt e1).1
        have ha6 := hc0.2.1
        have hb6 := hc1.2.1
        have s0 : (fS 1 C ((u * 6 + r) * 2)).2.2.2.1 a = C 10 ((u * 6 + r) * 2 * 6 + a) := fS_sk ha
        have s1 : (fS 1 C ((u * 6 + r) * 2 + 1)).2.2.2.1 b = C 10 (((u * 6 + r) * 2 + 1) * 6 + b) := fS_sk hb
        simp only [oI]
        rw [ix6, ix6, cl (by omega), cl (by omega), ← s0, ← s1]
        have key : own (fS 1 C ((u * 6 + r) * 2)) (fS 1 C ((u * 6 + r) * 2 + 1)) t = if (fS 1 C ((u * 6 + r) * 2)).2.2.2.1 a = 0 ∧ (fS 1 C ((u * 6 + r) * 2 + 1)).2.2.2.1 b = 0 then 0 else 3 := by
          rw [own, e0, e1]
        rw [key]
        refine ⟨vpi (by omega) (by decide), fun g0 => s_S_ownReason_82 (s_S_ownReason_87 ⟨fun z => absurd z (by decide), fun _ => ret_I' ?_ rfl rfl⟩), fun g0 => ⟨vpi (by omega) (by decide), fun g1 => s_S_ownReason_87 ⟨fun _ => ret_I' ?_ rfl rfl, fun z => absurd rfl z⟩, fun g1 => s_S_ownReason_82 (s_S_ownReason_87 ⟨fun z => absurd z (by decide), fun _ => ret_I' ?_ rfl rfl⟩)⟩⟩
        · rw [if_neg (by simp [g0])]
          rfl
        · rw [if_pos ⟨g0, g1⟩]
          rfl
        · rw [if_neg (by simp [g1])]
          rfl
  · cases e0 : plc (fS 1 C ((u * 6 + r) * 2)) t with
    | none => exact absurd e0 h0
    | some a => rw [own, e0, h1]; rfl
  · rw [own, h0]; rfl
theorem m_S_whyNotUsed {u r : Nat} {t : Int32} (hr : (u * 6 + r) * 2 + 1 < 48) (hc0 : cok 1 C ((u * 6 + r) * 2)) (hc1 : cok 1 C ((u * 6 + r) * 2 + 1)) : cI zN (d + 3) 42 [.ref 1, .int (nI u), .int (nI r), .int t] C p (nI (why (fS 1 C ((u * 6 + r) * 2)) (fS 1 C ((u * 6 + r) * 2 + 1)) t)) C p := by
  have ho : ∀ t, own (fS 1 C ((u * 6 + r) * 2)) (fS 1 C ((u * 6 + r) * 2 + 1)) t < 5000 := by
    intro t
    unfold own
    split
    · decide
    · decide
    · split <;> decide
  have h0 : ∀ t, nI (own (fS 1 C ((u * 6 + r) * 2)) (fS 1 C ((u * 6 + r) * 2 + 1)) t) = 0 ↔ own (fS 1 C ((u * 6 + r) * 2)) (fS 1 C ((u * 6 + r) * 2 + 1)) t = 0 := fun t => eq5 (b := 0) (ho t) (by decide)
  refine e_S_whyNotUsed (s_S_whyNotUsed_0 (use_I (m_S_ownReason hr hc0 hc1) (s_S_whyNotUsed_7 ⟨fun h => ret_I' ?_ rfl rfl, fun h => ⟨fun ht => use_I (m_S_ownReason hr hc0 hc1) (s_S_whyNotUsed_28 ⟨fun h2 => ret_I' ?_ rfl rfl, fun h2 => ret_I' ?_ rfl rfl⟩), fun ht => ret_I' ?_ rfl rfl⟩⟩)))
  · rw [h0] at h
    rw [why, if_pos (Or.inl h)]
  · rw [h0] at h h2
    rw [why, if_neg (by simp [h, ht]), if_neg h2]
    rfl
  · rw [h0] at h h2
    rw [why, if_neg (by simp [h, ht]), if_pos h2]
    rfl
  · rw [why, if_pos (Or.inr ht)]
end
