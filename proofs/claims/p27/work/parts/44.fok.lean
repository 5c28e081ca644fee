theorem fok_fadd {f : aFace} {t : Nat} {rd : Int32} (h : fok f) (h6 : f.1 < 6) (ht : t < 6) (hp : plc f (nI t) = none) : fok (fadd f (nI t) rd) := by
  obtain ⟨a, b, c, e, g⟩ := h
  have hno : ∀ k, k < f.1 → f.2.1 k ≠ nI t := fun k hk => fd_none hp k (Nat.zero_le _) (by omega)
  refine ⟨by simp only [fadd]; omega, fun _ => by simp only [fadd]; omega, fun k hk => ?_, fun k hk => ?_, fun j k hj hk he => ?_⟩
  · have hk2 : k < f.1 + 1 := hk
    simp only [fadd]
    rw [cut_lt hk2]
    by_cases e2 : k = f.1
    · simp [e2]
    · simp only [if_neg e2]
      exact c k (by omega)
  · have hk2 : k < f.1 + 1 := hk
    simp only [fadd]
    rw [cut_lt hk2]
    by_cases e2 : k = f.1
    · exact ⟨t, ht, by simp [e2]⟩
    · simp only [if_neg e2]
      exact e k (by omega)
  · have hj2 : j < f.1 + 1 := hj
    have hk2 : k < f.1 + 1 := hk
    simp only [fadd] at he
    rw [cut_lt hk2, cut_lt hj2] at he
    by_cases e1 : j = f.1
    · by_cases e2 : k = f.1
      · omega
      · rw [if_pos e1, if_neg e2] at he
        exact absurd he.symm (hno k (by omega))
    · by_cases e2 : k = f.1
      · rw [if_neg e1, if_pos e2] at he
        exact absurd he (hno j (by omega))
      · rw [if_neg e1, if_neg e2] at he
        exact g j k (by omega) (by omega) he
theorem fok_frem {f : aFace} {j : Nat} (h : fok f) (hj : j < f.1) (hx : f.2.2.2.2 ≠ -1 → j ≠ 0) : fok (frem f j) := by
  obtain ⟨a, b, c, e, g⟩ := h
  have sh : ∀ (z : Nat → Int32) k, k < f.1 - 1 → ∃ k', k' < f.1 ∧ (frem f j).1 = f.1 - 1 ∧ cut (f.1 - 1) (fun k => if j ≤ k then z (k + 1) else z k) k = z k' ∧ k' = if j ≤ k then k + 1 else k := by
    intro z k hk
    rw [cut_lt hk]
    by_cases e2 : j ≤ k
    · exact ⟨k + 1, by omega, rfl, by simp only [if_pos e2], by simp only [if_pos e2]⟩
    · exact ⟨k, by omega, rfl, by simp only [if_neg e2], by simp only [if_neg e2]⟩
  refine ⟨by simp only [frem]; omega, fun hne => ?_, fun k hk => ?_, fun k hk => ?_, fun i k hi hk he => ?_⟩
  · have := hx hne
    simp only [frem]
    omega
  · obtain ⟨k', h1, -, h2, -⟩ := sh f.2.2.2.1 k hk
    simp only [frem]
    rw [h2]
    exact c k' h1
  · obtain ⟨k', h1, -, h2, -⟩ := sh f.2.1 k hk
    simp only [frem]
    rw [h2]
    exact e k' h1
  · obtain ⟨k', h1, -, h2, h3⟩ := sh f.2.1 k hk
    obtain ⟨i', h1', -, h2', h3'⟩ := sh f.2.1 i hi
    simp only [frem] at he
    rw [h2, h2'] at he
    have := g _ _ h1' h1 he
    rw [h3, h3'] at this
    split at this <;> split at this <;> omega
theorem fok_fclo {f : aFace} {x : Int32} (h : fok f) (h1 : 1 ≤ f.1) : fok (fclo f x) := by
  obtain ⟨a, b, c, e, g⟩ := h
  exact ⟨a, fun _ => h1, c, e, g⟩
theorem fok_fstr {f : aFace} {j : Nat} {v : Int32} (h : fok f) (hv : v = 0 ∨ v = 1) : fok (fstr f j v) := by
  obtain ⟨a, b, c, e, g⟩ := h
  refine ⟨a, b, fun k hk => ?_, e, g⟩
  have hk2 : k < f.1 := hk
  simp only [fstr]
  rw [cut_lt hk2]
  split
  · exact hv
  · exact c k hk2