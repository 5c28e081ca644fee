/-! the model: directions, what is left, what is bad -/
theorem dst_fst {G : aG} {t : Nat} : ∀ {N : Nat}, (dst G t N).1 ≠ 0 → (dst G t N).2.1 ≠ -2000005
  | 0, h => absurd rfl h
  | N + 1, h => by
    unfold dst at h ⊢
    by_cases hu : us G N t = true
    · rw [if_pos hu]
      show (if (dst G t N).1 = 0 then reR G N t else (dst G t N).2.1) ≠ -2000005
      by_cases hc : (dst G t N).1 = 0
      · rw [if_pos hc]
        exact (fmd_m1 _).2
      · rw [if_neg hc]
        exact dst_fst hc
    · rw [if_neg hu] at h ⊢
      exact dst_fst h
theorem dst_s (G : aG) (t r : Nat) : dst G t (r + 1) = if us G r t then ((dst G t r).1 + 1, (if (dst G t r).1 = 0 then reR G r t else (dst G t r).2.1), (dst G t r).2.2 + nr (reR G r t - (if (dst G t r).1 = 0 then reR G r t else (dst G t r).2.1))) else dst G t r := rfl
theorem us_why {A : aS} {u r t : Nat} : us (GA A u) r t = true ↔ nI (why (aF A (rwn u r 0)) (aF A (rwn u r 1)) (nI t)) = 0 := by
  have := why_le (aF A (rwn u r 0)) (aF A (rwn u r 1)) (nI t)
  rw [nI_eq0 (by omega)]
  simp only [us, decide_eq_true_eq]
  rfl
theorem or0 (x : Int32) : x ||| 0 = x := by simp
section
variable {d : Nat} {C : Nat → Nat → Int32} {p : Nat → Option Nat} {A : aS} {u r : Nat}
theorem m_M_roundsOf {t : Nat} (hs : seesM (C 75) A) (hg : good A) (hu : u < A.1) : cI (d + 5) 111 [.ref 74, .int (nI u), .int (nI t)] C p (bs (fun r => us (GA A u) r t) (aR A u)) C p := by
  have h4 := hg.1
  have h6 := (hg.2.2.2.1 u (by omega)).1
  have loop : ∀ m k, k + m = aR A u → am_At (d + 5) 111 none (am_Ret (am_eI (bs (fun r => us (GA A u) r t) (aR A u)) C p)) 5 [some (.ref 74), some (.int (nI u)), some (.int (nI t)), some (.int (bs (fun r => us (GA A u) r t) k)), some (.int (nI k))] [] (am_w C p) (0, 0) := by
    intro m
    induction m with
    | zero =>
      intro k hk
      apply s_M_roundsOf_5
      refine use_I (m_M_of (b := 0)) (s_M_roundsOf_16 ?_)
      rw [cl (by omega), Nat.add_zero, (hs.2.2.2.1 u hu).1]
      exact ⟨vpi (by omega) (by decide), fun _ => ret_I' (by rw [← hk]; rfl) rfl rfl, fun h => absurd ((le5 (by omega) (by omega)).mpr (by omega)) h⟩
    | succ m ih =>
      intro k hk
      apply s_M_roundsOf_5
      refine use_I (m_M_of (b := 0)) (s_M_roundsOf_16 ?_)
      rw [cl (by omega), Nat.add_zero, (hs.2.2.2.1 u hu).1]
      refine ⟨vpi (by omega) (by decide), fun h => absurd ((le5 (by omega) (by omega)).mp h) (by omega), fun _ => use_I (m_M_why hs hg hu (by omega)) (s_M_roundsOf_29 ?_)⟩
      rw [← us_why, nI_1, or0]
      have ih' := ih (k + 1) (by omega)
      rw [bs_s] at ih'
      refine ⟨fun h => ?_, fun h => ?_⟩
      · rw [if_neg h] at ih'
        exact ih'
      · rw [if_pos h] at ih'
        exact ih'
  exact e_M_roundsOf (s_M_roundsOf_0 (loop (aR A u) 0 (by omega)))
theorem m_M_directed {t : Nat} (hs : seesM (C 75) A) (hg : good A) (hu : u < A.1) : cI (d + 8) 112 [.ref 74, .int (nI u), .int (nI t)] C p (oD (-2000005) (dirA A u t)) C p := by
  have h4 := hg.1
  have h6 := (hg.2.2.2.1 u (by omega)).1
  have loop : ∀ m k o7, k + m = aR A u → am_At (d + 8) 112 none (am_Ret (am_eI (oD (-2000005) (dirA A u t)) C p)) 12 [some (.ref 74), some (.int (nI u)), some (.int (nI t)), some (.int (if (dst (GA A u) t k).1 = 0 then -2000005 else (dst (GA A u) t k).2.1)), some (.int (dst (GA A u) t k).2.2), some (.int (nI (dst (GA A u) t k).1)), some (.int (nI k)), o7] [] (am_w C p) (0, 0) := by
    intro m
    induction m with
    | zero =>
      intro k o7 hk
      have hle := dst_le (GA A u) t k
      apply s_M_directed_12
      refine use_I (m_M_of (b := 0)) (s_M_directed_23 ?_)
      rw [cl (by omega), Nat.add_zero, (hs.2.2.2.1 u hu).1]
      refine ⟨vpi (by omega) (by decide), fun _ => ?_, fun h => absurd ((le5 (by omega) (by omega)).mpr (by omega)) h⟩
      have hk' : k = aR A u := by omega
      subst hk'
      rw [nI_eq0 (by omega)]
      refine ⟨fun h => ?_, fun h => ?_⟩
      · rw [if_neg h]
        refine use_I (m_M_divided (by rw [nI_toI (by omega)]; omega)) (s_M_directed_100 (use_I m_M_full (s_M_directed_104 (ret_I' ?_ rfl rfl))))
        rw [dirA, dirO_some h]
        rfl
      · refine s_M_directed_104 (ret_I' ?_ rfl rfl)
        rw [dirA, dirO_none h]
        rfl
    | succ m ih =>
      intro k o7 hk
      have hle := dst_le (GA A u) t k
      apply s_M_directed_12
      refine use_I (m_M_of (b := 0)) (s_M_directed_23 ?_)
      rw [cl (by omega), Nat.add_zero, (hs.2.2.2.1 u hu).1]
      refine ⟨vpi (by omega) (by decide), fun h => absurd ((le5 (by omega) (by omega)).mp h) (by omega), fun _ => use_I (m_M_why hs hg hu (by omega)) (s_M_directed_35 ?_)⟩
      rw [← us_why, nI_1]
      have ih' := ih (k + 1)
      rw [dst_s] at ih'
      refine ⟨fun h => ?_, fun h => ?_⟩
      · rw [if_neg h] at ih'
        exact ih' _ (by omega)
      · rw [if_pos h] at ih'
        simp only [Nat.add_eq_zero_iff, Nat.one_ne_zero, and_false, if_false] at ih'
        refine use_I (m_M_reducedIn hs hg hu (by omega) h) (s_M_directed_46 ⟨fun h0 => ?_, fun h0 => ?_⟩)
        · have hc : (dst (GA A u) t k).1 ≠ 0 := fun e => h0 (by rw [if_pos e])
          simp only [if_neg hc] at ih' ⊢
          refine use_I m_M_near (s_M_directed_70 ?_)
          rw [nI_1, nI_1]
          exact ih' _ (by omega)
        · have hc : (dst (GA A u) t k).1 = 0 := by
            by_cases hc : (dst (GA A u) t k).1 = 0
            · exact hc
            · rw [if_neg hc] at h0
              exact absurd h0 (dst_fst hc)
          simp only [if_pos hc] at ih' ⊢
          refine use_I m_M_near (s_M_directed_70 ?_)
          rw [nI_1, nI_1]
          exact ih' _ (by omega)
  exact e_M_directed (s_M_directed_0 (loop (aR A u) 0 _ (by omega)))
theorem dir_us {G : aG} {N r t : Nat} (hr : r < N) (h : us G r t = true) : dirO G N t = some (dirI G N t) := dirO_some (by have := dst_pos hr h; omega)
theorem m_M_left {t : Nat} (hs : seesM (C 75) A) (hg : good A) (hu : u < A.1) (hr : r < aR A u) (h : us (GA A u) r t = true) : cI (d + 9) 113 [.ref 74, .int (nI u), .int (nI r), .int (nI t)] C p (lef (GA A u) (aR A u) r t) C p := by
  have hd := m_M_directed (d := d) (p := p) (t := t) hs hg hu
  rw [dirA, dir_us hr h] at hd
  exact e_M_left (s_M_left_0 (use_I (m_M_reducedIn hs hg hu hr h) (s_M_left_7 (use_I hd (s_M_left_13 (use_I m_M_near (s_M_left_17 (ret_I' rfl rfl rfl))))))))
theorem bad_no {t : Nat} (hg : good A) (h : ¬ us (GA A u) r t = true) : bad (GA A u) (aR A u) A.2.1 r t = false := by
  unfold bad lws
  rw [if_neg h, decide_eq_false_iff_not, Classical.not_not, Int32.le_iff_toInt_le, i32_0]
  have := hg.2.1.1
  omega
theorem m_M_isBad {t : Nat} (hs : seesM (C 75) A) (hg : good A) (hu : u < A.1) (hr : r < aR A u) : cI (d + 10) 114 [.ref 74, .int (nI u), .int (nI r), .int (nI t)] C p (bI (bad (GA A u) (aR A u) A.2.1 r t)) C p := by
  apply e_M_isBad
  apply s_M_isBad_0
  refine use_I (m_M_why hs hg hu hr) (s_M_isBad_7 ?_)
  rw [← us_why]
  refine ⟨fun h => ⟨Or.inl rfl, ret_I' (by rw [bad_no hg h]; rfl) rfl rfl⟩, fun h => use_I (m_M_left (d := d) hs hg hu hr h) (s_M_isBad_17 (use_I m_M_size (s_M_isBad_20 ?_)))⟩
  rw [show ((1 : Int32).toNatClampNeg) = 1 from rfl, hs.2.1]
  have e : bad (GA A u) (aR A u) A.2.1 r t = decide (¬ av (lef (GA A u) (aR A u) r t) ≤ A.2.1) := by
    unfold bad lws
    rw [if_pos h]
  rw [e]
  refine ⟨vpi (n := 1) (by decide) (by decide), fun h0 => ⟨Or.inl rfl, ret_I' ?_ rfl rfl⟩, fun h0 => ⟨Or.inr rfl, ret_I' ?_ rfl rfl⟩⟩
  · rw [decide_eq_false (fun hh => hh h0)]; rfl
  · rw [decide_eq_true h0]; rfl
theorem m_M_bad (hs : seesM (C 75) A) (hg : good A) (hu : u < A.1) (hr : r < aR A u) : cI (d + 11) 115 [.ref 74, .int (nI u), .int (nI r)] C p (bs (bad (GA A u) (aR A u) A.2.1 r) 6) C p := by
  have loop : ∀ m k, k + m = 6 → am_At (d + 11) 115 none (am_Ret (am_eI (bs (bad (GA A u) (aR A u) A.2.1 r) 6) C p)) 5 [some (.ref 74), some (.int (nI u)), some (.int (nI r)), some (.int (bs (bad (GA A u) (aR A u) A.2.1 r) k)), some (.int (nI k))] [] (am_w C p) (0, 0) := by
    intro m
    induction m with
    | zero =>
      intro k hk
      apply s_M_bad_5
      exact ⟨fun _ => ret_I' (by rw [← hk]; rfl) rfl rfl, fun h => absurd ((le5 (a := 6) (by omega) (by omega)).mpr (by omega)) h⟩
    | succ m ih =>
      intro k hk
      apply s_M_bad_5
      refine ⟨fun h => absurd ((le5 (a := 6) (by omega) (by omega)).mp h) (by omega), fun _ => use_I (m_M_isBad (d := d) hs hg hu hr) (s_M_bad_21 ?_)⟩
      have ih' := ih (k + 1) (by omega)
      rw [bs_s _ k] at ih'
      rw [nI_1, or0, bI_eq]
      refine ⟨fun h => ?_, fun h => ?_⟩
      · rw [if_neg (by rw [h]; decide)] at ih'
        exact ih'
      · rw [if_pos (bf h)] at ih'
        exact ih'
  exact e_M_bad (s_M_bad_0 (loop 6 0 (by omega)))
end
