/-! sums over a state; count, centring, pointing -/
variable {zN : Nat}
def nRounds (A : aS) : Nat := sm (aR A) 0 A.1
def nPoints (A : aS) : Nat := sm (fun row => (aF A row).1) 0 48
def nStruck (A : aS) : Nat := sm (fun row => skn (aF A row)) 0 48
def nClosed (A : aS) : Nat := sm (fun row => if (aF A row).2.2.2.2 = -1 then 0 else 1) 0 48
def badU (A : aS) (u : Nat) : Nat := sm (fun r => cb (bad (GA A u) (aR A u) A.2.1 r) 6) 0 (aR A u)
def nBad (A : aS) : Nat := sm (badU A) 0 A.1
section
variable {d : Nat} {C : Nat → Nat → Int32} {p : Nat → Option Nat} {G : aGl} {A : aS}
theorem m_S_allRounds (hs : sees 1 C A) (hg : good A) : cI zN (d + 1) 46 [.ref 1] C p (nI (nRounds A)) C p := by
  have h4 := hg.1
  have loop : ∀ m k a, k + m = A.1 → a + sm (aR A) k m = nRounds A → am_At (d + 1) 46 none (am_Ret zN (am_eI (nI (nRounds A)) C p)) 4 [some (.ref 1), some (.int (nI a)), some (.int (nI k))] [] (am_w zN C p) (0, 0) := by
    intro m
    induction m with
    | zero =>
      intro k a hk ha
      apply s_S_allRounds_4
      rw [hs.1]
      exact ⟨fun _ => ret_I' (by rw [← ha]; rfl) rfl rfl, fun h => absurd ((le5 (by omega) (by omega)).mpr (by omega)) h⟩
    | succ m ih =>
      intro k a hk ha
      apply s_S_allRounds_4
      rw [hs.1, cl (by omega), show C 2 k = nI (aR A k) from hs.2.2.2.1 k (by omega), nI_add, nI_1]
      refine ⟨fun h => absurd ((le5 (by omega) (by omega)).mp h) (by omega), fun _ => ⟨vpi (by omega) (by decide), ih (k + 1) _ (by omega) (by rw [← ha]; simp only [sm]; omega)⟩⟩
  exact e_S_allRounds (s_S_allRounds_0 (loop A.1 0 0 (by omega) (by rw [Nat.zero_add]; rfl)))
theorem m_S_allPointings (hs : sees 1 C A) : cI zN (d + 1) 47 [.ref 1] C p (nI (nPoints A)) C p := by
  have loop : ∀ m k a, k + m = 48 → a + sm (fun row => (aF A row).1) k m = nPoints A → am_At (d + 1) 47 none (am_Ret zN (am_eI (nI (nPoints A)) C p)) 4 [some (.ref 1), some (.int (nI a)), some (.int (nI k))] [] (am_w zN C p) (0, 0) := by
    intro m
    induction m with
    | zero =>
      intro k a hk ha
      apply s_S_allPointings_4
      exact ⟨fun _ => ret_I' (by rw [← ha]; rfl) rfl rfl, fun h => absurd ((le5 (a := 48) (by omega) (by omega)).mpr (by omega)) h⟩
    | succ m ih =>
      intro k a hk ha
      apply s_S_allPointings_4
      rw [cl (by omega), face_n hs (row := k) (by omega), nI_add, nI_1]
      refine ⟨fun h => absurd ((le5 (a := 48) (by omega) (by omega)).mp h) (by omega), fun _ => ⟨vpi (by omega) (by decide), ih (k + 1) _ (by omega) (by rw [← ha]; simp only [sm]; omega)⟩⟩
  exact e_S_allPointings (s_S_allPointings_0 (loop 48 0 0 (by omega) (by rw [Nat.zero_add]; rfl)))
theorem m_S_allStruck (hs : sees 1 C A) (hg : good A) : cI zN (d + 2) 48 [.ref 1] C p (nI (nStruck A)) C p := by
  have loop : ∀ m k a, k + m = 48 → a + sm (fun row => skn (aF A row)) k m = nStruck A → am_At (d + 2) 48 none (am_Ret zN (am_eI (nI (nStruck A)) C p)) 4 [some (.ref 1), some (.int (nI a)), some (.int (nI k))] [] (am_w zN C p) (0, 0) := by
    intro m
    induction m with
    | zero =>
      intro k a hk ha
      apply s_S_allStruck_4
      exact ⟨fun _ => ret_I' (by rw [← ha]; rfl) rfl rfl, fun h => absurd ((le5 (a := 48) (by omega) (by omega)).mpr (by omega)) h⟩
    | succ m ih =>
      intro k a hk ha
      apply s_S_allStruck_4
      refine ⟨fun h => absurd ((le5 (a := 48) (by omega) (by omega)).mp h) (by omega), fun _ => use_I (m_S_struckIn (by omega) (sees_cok hs hg (by omega))) (s_S_allStruck_16 ?_)⟩
      rw [sees_f hs (by omega), nI_add, nI_1]
      exact ih (k + 1) _ (by omega) (by rw [← ha]; simp only [sm]; omega)
  exact e_S_allStruck (s_S_allStruck_0 (loop 48 0 0 (by omega) (by rw [Nat.zero_add]; rfl)))
theorem m_S_allClosings (hs : sees 1 C A) : cI zN (d + 2) 49 [.ref 1] C p (nI (nClosed A)) C p := by
  have loop : ∀ m k a, k + m = 48 → a + sm (fun row => if (aF A row).2.2.2.2 = -1 then 0 else 1) k m = nClosed A → am_At (d + 2) 49 none (am_Ret zN (am_eI (nI (nClosed A)) C p)) 4 [some (.ref 1), some (.int (nI a)), some (.int (nI k))] [] (am_w zN C p) (0, 0) := by
    intro m
    induction m with
    | zero =>
      intro k a hk ha
      apply s_S_allClosings_4
      exact ⟨fun _ => ret_I' (by rw [← ha]; rfl) rfl rfl, fun h => absurd ((le5 (a := 48) (by omega) (by omega)).mpr (by omega)) h⟩
    | succ m ih =>
      intro k a hk ha
      simp only [sm] at ha
      apply s_S_allClosings_4
      refine ⟨fun h => absurd ((le5 (a := 48) (by omega) (by omega)).mp h) (by omega), fun _ => use_I (m_S_isClosed (by omega)) (s_S_allClosings_15 ?_)⟩
      rw [sees_f hs (by omega), nI_1, nI_1]
      refine ⟨fun h => ?_, fun h => ?_⟩
      · rw [bI_eq, decide_eq_false_iff_not, Classical.not_not] at h
        rw [if_pos h] at ha
        exact ih (k + 1) _ (by omega) (by omega)
      · rw [bI_ne, decide_eq_true_eq] at h
        rw [if_neg h] at ha
        exact ih (k + 1) _ (by omega) (by omega)
  exact e_S_allClosings (s_S_allClosings_0 (loop 48 0 0 (by omega) (by rw [Nat.zero_add]; rfl)))
theorem m_F_allBad (hs : sees 1 C A) (hg : good A) : am_Call (d + 6) 82 [.ref 0] (am_w zN C p) (am_Ret zN fun r C' p' => ∃ e, r = some (.int e) ∧ p' = p ∧ e = nI (nBad A) ∧ agR C' C) := by
  have h4 := hg.1
  have loop : ∀ m u a o3 D, u + m = A.1 → a + sm (badU A) u m = nBad A → agR D C → am_At (d + 6) 82 none (am_Ret zN fun r C' p' => ∃ e, r = some (.int e) ∧ p' = p ∧ e = nI (nBad A) ∧ agR C' C) 4 [some (.ref 0), some (.int (nI a)), some (.int (nI u)), o3] [] (am_w zN D p) (0, 0) := by
    intro m
    induction m with
    | zero =>
      intro u a o3 D hu ha hD
      apply s_F_allBad_4
      rw [hD 1 (by decide), hs.1]
      exact ⟨fun _ => ⟨D, p, rfl, _, rfl, rfl, by rw [← ha]; rfl, hD⟩, fun h => absurd ((le5 (by omega) (by omega)).mpr (by omega)) h⟩
    | succ m ih =>
      intro u a o3 D hu ha hD
      have h6 := (hg.2.2.2.1 u (by omega)).1
      have hsD : sees 1 D A := sees_congr (fun x _ hx => hD x (by omega)) hs
      simp only [sm] at ha
      apply s_F_allBad_4
      rw [hD 1 (by decide), hs.1]
      refine ⟨fun h => absurd ((le5 (by omega) (by omega)).mp h) (by omega), fun _ => use_reckon hsD hg (by omega) fun D2 hR hk => s_F_allBad_27 ?_⟩
      have hD2 : agR D2 C := hR.tr hD
      have hs2 : sees 1 D2 A := sees_congr (fun x _ hx => hD2 x (by omega)) hs
      have inner : ∀ n r b, r + n = aR A u → b + sm (fun r => cb (bad (GA A u) (aR A u) A.2.1 r) 6) r n = a + badU A u → am_At (d + 6) 82 none (am_Ret zN fun r C' p' => ∃ e, r = some (.int e) ∧ p' = p ∧ e = nI (nBad A) ∧ agR C' C) 29 [some (.ref 0), some (.int (nI b)), some (.int (nI u)), some (.int (nI r))] [] (am_w zN D2 p) (0, 0) := by
        intro n
        induction n with
        | zero =>
          intro r b hr hb
          apply s_F_allBad_29
          rw [cl (by omega), show D2 2 u = nI (aR A u) from hs2.2.2.2.1 u (by omega), nI_1]
          simp only [sm] at hb
          exact ⟨vpi (by omega) (by decide), fun _ => ih (u + 1) b _ D2 (by omega) (by omega) hD2, fun h => absurd ((le5 (by omega) (by omega)).mpr (by omega)) h⟩
        | succ n ihn =>
          intro r b hr hb
          simp only [sm] at hb
          apply s_F_allBad_29
          rw [cl (by omega), show D2 2 u = nI (aR A u) from hs2.2.2.2.1 u (by omega), show D2 1 1 = A.2.1 from hs2.2.1]
          refine ⟨vpi (by omega) (by decide), fun h => absurd ((le5 (by omega) (by omega)).mp h) (by omega), fun _ => use_I (m_R_badTargets (by omega) hk) (s_F_allBad_58 (use_I m_J_bitCount (s_F_allBad_61 ?_)))⟩
          rw [bc_bs, nI_add, nI_1]
          exact ihn (r + 1) _ (by omega) (by omega)
      exact inner (aR A u) 0 a (by omega) rfl
  exact e_F_allBad (s_F_allBad_0 (loop A.1 0 0 _ C (by omega) (by rw [Nat.zero_add]; rfl) agR.rf))
def qCount (G : aGl) (x : Int32) : Int32 := if x = 0 then nI (gcur G).1 else if x = 1 then nI (nRounds (gcur G)) else if x = 2 then nI (nPoints (gcur G)) else if x = 3 then nI (nStruck (gcur G)) else if x = 4 then nI (nBad (gcur G)) else if x = 5 then (gcur G).2.1 else if x = 6 then nI (nClosed (gcur G)) else if x = 7 then nI (ghis G).1 else if x = 8 then nI (gtxt G).1 else -2000002
theorem m_count {x : Int32} (hg : gG G) (hs : seeG C p G) : am_Call (d + 7) 73 [.ref 0, .int x] (am_w zN C p) (am_Ret zN (fP C (qCount G x, G))) := by
  apply e_F_count
  apply s_F_count_0
  rw [hs.1.1, hs.1.2.1, hs.2.2.2.1.1, hs.2.2.2.2.1]
  unfold qCount
  refine ⟨fun h0 => leaf0 hs (by rw [if_pos h0]), fun h0 => ?_⟩
  rw [if_neg h0]
  refine ⟨fun h1 => use_I (m_S_allRounds hs.1 hg.1) (s_F_count_67 (leaf0 hs (by rw [if_pos h1]))), fun h1 => ?_⟩
  rw [if_neg h1]
  refine ⟨fun h2 => use_I (m_S_allPointings hs.1) (s_F_count_75 (leaf0 hs (by rw [if_pos h2]))), fun h2 => ?_⟩
  rw [if_neg h2]
  refine ⟨fun h3 => use_I (m_S_allStruck hs.1 hg.1) (s_F_count_83 (leaf0 hs (by rw [if_pos h3]))), fun h3 => ?_⟩
  rw [if_neg h3]
  refine ⟨fun h4 => use_IP (m_F_allBad hs.1 hg.1) (fun e C' he => s_F_count_88 (leaf (by rw [if_pos h4]) he.1 (seeG_agR he.2 hs) (fun z hz => he.2 z (by omega)))), fun h4 => ?_⟩
  rw [if_neg h4]
  refine ⟨fun h5 => leaf0 hs (by rw [if_pos h5]), fun h5 => ?_⟩
  rw [if_neg h5]
  refine ⟨fun h6 => use_I (m_S_allClosings hs.1) (s_F_count_104 (leaf0 hs (by rw [if_pos h6]))), fun h6 => ?_⟩
  rw [if_neg h6]
  refine ⟨fun h7 => leaf0 hs (by rw [if_pos h7]), fun h7 => ?_⟩
  rw [if_neg h7]
  exact ⟨fun h8 => leaf0 hs (by rw [if_pos h8]), fun h8 => leaf0 hs (by rw [if_neg h8])⟩
def qCentring (G : aGl) (u x : Int32) : Int32 := if hsA (gcur G) u = false then -2000001 else if x = 0 then aO (gcur G) (cn u) else aQ (gcur G) (cn u)
theorem m_centring {u x : Int32} (hg : gG G) (hs : seeG C p G) : am_Call (d + 4) 74 [.ref 0, .int u, .int x] (am_w zN C p) (am_Ret zN (fP C (qCentring G u x, G))) := by
  apply e_F_centring
  apply s_F_centring_0
  refine use_I m_S_hasSetUp (s_F_centring_8 ?_)
  rw [hsu_A hs.1 hg.1]
  refine ⟨fun h1 => ?_, fun h1 => leaf0 hs (by rw [qCentring, if_pos (bI_eq.mp h1)])⟩
  rw [bI_ne] at h1
  obtain ⟨n, rfl, hn⟩ := hsA_ok h1 hg.1
  have h4 := hg.1.1
  rw [cl (by omega), show C 3 n = aO (gcur G) n from hs.1.2.2.2.2.1 n (by omega), show C 4 n = aQ (gcur G) n from hs.1.2.2.2.2.2.1 n (by omega)]
  have hv := vpi (n := n) (N := 4) (by omega) (by decide)
  refine ⟨fun h => ⟨hv, leaf0 hs ?_⟩, fun h => ⟨hv, leaf0 hs ?_⟩⟩
  · rw [qCentring, if_neg (by rw [h1]; decide), if_pos h, cn_nI (by omega)]
  · rw [qCentring, if_neg (by rw [h1]; decide), if_neg h, cn_nI (by omega)]
def qPointing (G : aGl) (u r f k w : Int32) : Int32 := if hrA (gcur G) u r = false then -2000001 else if isFc f = false then -2000002 else if ¬ (0 ≤ k.toInt ∧ 0 ≤ w.toInt ∧ w.toInt ≤ 3) then -2000002 else if ¬ k.toInt < (aF (gcur G) (rwx u r f)).1 then -2000005 else if w = 0 then (aF (gcur G) (rwx u r f)).2.1 (cn k) else if w = 1 then (aF (gcur G) (rwx u r f)).2.2.1 (cn k) else if w = 2 then (if (aF (gcur G) (rwx u r f)).2.2.2.1 (cn k) = 0 then 0 else 1) else cor (aF (gcur G) (rwx u r f)) (cn k)
theorem c_3 : (3 : Int32).toInt = 3 := by decide
theorem m_pointing {u r f k w : Int32} (hg : gG G) (hs : seeG C p G) : am_Call (d + 4) 67 [.ref 0, .int u, .int r, .int f, .int k, .int w] (am_w zN C p) (am_Ret zN (fP C (qPointing G u r f k w, G))) := by
  apply e_F_pointing
  apply s_F_pointing_0
  refine use_I (m_S_hasRound (C10_4 hs.1 hg.1)) (s_F_pointing_9 ?_)
  rw [hrd_A hs.1 hg.1]
  refine ⟨fun h1 => use_I m_F_isFace (s_F_pointing_19 ⟨fun h => leaf0 hs ?_, fun h3 => ?_⟩), fun h => leaf0 hs (by rw [qPointing, if_pos (bI_eq.mp h)])⟩
  · rw [bI_ne] at h1
    rw [qPointing, if_neg (by rw [h1]; decide), if_pos (bI_eq.mp h)]
  rw [bI_ne] at h1 h3
  have E : qPointing G u r f k w = if ¬ (0 ≤ k.toInt ∧ 0 ≤ w.toInt ∧ w.toInt ≤ 3) then -2000002 else if ¬ k.toInt < (aF (gcur G) (rwx u r f)).1 then -2000005 else if w = 0 then (aF (gcur G) (rwx u r f)).2.1 (cn k) else if w = 1 then (aF (gcur G) (rwx u r f)).2.2.1 (cn k) else if w = 2 then (if (aF (gcur G) (rwx u r f)).2.2.2.1 (cn k) = 0 then 0 else 1) else cor (aF (gcur G) (rwx u r f)) (cn k) := by
    rw [qPointing, if_neg (by rw [h1]; decide), if_neg (by rw [h3]; decide)]
  obtain ⟨un, rn, rfl, hu1, hu, rfl, hr1, hr⟩ := hrA_ok h1 hg.1
  obtain ⟨fn, rfl, hf⟩ := isFc_ok h3
  rw [rwx_nI hu hr hf] at E
  rw [Int32.lt_iff_toInt_lt, Int32.lt_iff_toInt_lt, Int32.le_iff_toInt_le, i32_0, c_3]
  have hrow : (un * 6 + rn) * 2 + fn < 48 := by omega
  have h6 := (hg.1.2.2.2.2.1 _ hrow).1
  refine ⟨fun h => leaf0 hs (by rw [E, if_pos (by omega)]), fun a1 => ⟨fun h => leaf0 hs (by rw [E, if_pos (by omega)]), fun a2 => ⟨fun a3 => use_I m_F_rowOf (s_F_pointing_47 ?_), fun h => leaf0 hs (by rw [E, if_pos (by omega)])⟩⟩⟩
  rw [if_neg (by omega)] at E
  rw [cl (n := (un * 6 + rn) * 2 + fn) (by omega), face_n hs.1 hrow, Int32.lt_iff_toInt_lt, nI_toI (by omega)]
  refine ⟨vpi hrow (by decide), fun h => ?_, fun h => leaf0 hs (by rw [E, if_pos h])⟩
  rw [if_neg (Classical.not_not.mpr h)] at E
  obtain ⟨kn, rfl, hk⟩ := lt_in (by omega) h (by omega)
  rw [cn_nI (by omega)] at E
  rw [ix6, cl (by omega)]
  obtain ⟨k1, k2, k3⟩ := face_k hs.1 hrow hk
  rw [k1, k2, k3]
  have hv := vpi (n := ((un * 6 + rn) * 2 + fn) * 6 + kn) (N := 288) (by omega) (by decide)
  refine ⟨fun h0 => ⟨hv, leaf0 hs (by rw [E, if_pos h0])⟩, fun h0 => ?_⟩
  rw [if_neg h0] at E
  refine ⟨fun h0 => ⟨hv, leaf0 hs (by rw [E, if_pos h0])⟩, fun h0 => ?_⟩
  rw [if_neg h0] at E
  refine ⟨fun h2 => ⟨hv, fun h0 => leaf0 hs (by rw [E, if_pos h2, if_pos h0]), fun h0 => leaf0 hs (by rw [E, if_pos h2, if_neg h0])⟩, fun h0 => ?_⟩
  rw [if_neg h0] at E
  refine use_I (m_S_corrected hrow (sees_cok hs.1 hg.1 hrow) (by rw [sees_f hs.1 hrow]; exact hk)) (s_F_pointing_156 (leaf0 hs ?_))
  rw [E, sees_f hs.1 hrow]
end
