/-! THE LAW'S SMALL HELPERS -/
variable {zN : Nat}
theorem use_F {d k : Nat} {av : List Value} {C : Nat → Nat → Int32} {p : Nat → Option Nat} {x : Int32 × aGl} {K : Int32 → aW → Prop} (h : am_Call d k av (am_w zN C p) (am_Ret zN (fP C x))) (hk : ∀ C' p', seeG C' p' x.2 → (∀ z, 74 ≤ z → C' z = C z) → K x.1 (am_w zN C' p')) : am_Ci d k av (am_w zN C p) K := by
  refine am_Call.mono h ?_
  rintro r w' ⟨C', p', rfl, rfl, h2, h3⟩
  exact hk C' p' h2 h3
def lwv (x n : Int32) : Int32 := (x &&& 2147483647) - (x &&& 2147483647) / n * n
theorem m_L_low {d : Nat} {C : Nat → Nat → Int32} {p : Nat → Option Nat} {x n : Int32} (hn : ¬ n = 0) : cI zN (d + 1) 165 [.int x, .int n] C p (lwv x n) C p :=
  e_L_low (s_L_low_0 ⟨hn, ret_I' rfl rfl rfl⟩)
theorem and_nn (x : Int32) : 0 ≤ (x &&& 2147483647).toInt := by
  have h1 : (x &&& 2147483647).toInt = (x.toBitVec &&& 2147483647#32).toInt := rfl
  have h2 : (x.toBitVec &&& 2147483647#32).msb = false := by
    rw [BitVec.msb_and]
    have : (2147483647#32).msb = false := by decide
    rw [this, Bool.and_false]
  rw [h1, BitVec.toInt_eq_msb_cond, h2]
  simp
theorem lwv_rg {x n : Int32} (hn : 0 < n.toInt) : 0 ≤ (lwv x n).toInt ∧ (lwv x n).toInt < n.toInt := by
  have h := I_rem (x := x &&& 2147483647) hn
  obtain ⟨h3, h4⟩ := tmod_bounds (a := (x &&& 2147483647).toInt) hn
  have h5 := (tmod_sign (x := (x &&& 2147483647).toInt) hn).1 (and_nn x)
  unfold lwv
  omega
def rdv (a b c e : Int32) : Int32 := (((((211111 * b) + (432017 * a)) + (648000 * c)) + e) + 1296000) - (((((211111 * b) + (432017 * a)) + (648000 * c)) + e) + 1296000) / 1296000 * 1296000
theorem m_L_reading {d : Nat} {C : Nat → Nat → Int32} {p : Nat → Option Nat} {a b c e : Int32} : cI zN (d + 1) 166 [.int a, .int b, .int c, .int e] C p (rdv a b c e) C p :=
  e_L_reading (s_L_reading_0 ⟨circ0, ret_I' rfl rfl rfl⟩)
theorem m_L_full {d : Nat} {C : Nat → Nat → Int32} {p : Nat → Option Nat} {x : Int32} : cI zN (d + 1) 168 [.int x] C p (fmd x) C p := by
  refine e_L_full (s_L_full_0 ⟨circ0, circ0, ret_I' ?_ rfl rfl⟩)
  obtain ⟨h3, h4⟩ := tmod_bounds (a := x.toInt) (M := 1296000) (by decide)
  have hy := remc_add (x := x)
  have hq := qr_key (x := x.toInt) (y := 1296000) (by decide)
  rw [fmd_pos (x := x - x / 1296000 * 1296000 + 1296000) (Int.tmod_nonneg _ (by omega))]
  unfold fmd
  rw [hy, show (x.toInt.tmod 1296000 + 1296000) % 1296000 = x.toInt % 1296000 by omega]
theorem m_L_near {d : Nat} {C : Nat → Nat → Int32} {p : Nat → Option Nat} {x : Int32} : cI zN (d + 2) 169 [.int x] C p (nr x) C p := by
  have half : (648000 : Int32).toInt = 648000 := by decide
  refine e_L_near (s_L_near_0 (use_I m_L_full (s_L_near_4 ⟨fun h => ret_I' ?_ rfl rfl, fun h => ret_I' ?_ rfl rfl⟩)))
  · rw [Int32.le_iff_toInt_le, half, fmd_int] at h
    refine toI_eq ?_
    rw [fmd_int, if_pos h]
  · rw [Int32.le_iff_toInt_le, half, fmd_int] at h
    refine toI_eq ?_
    rw [if_neg h, Int32.toInt_sub, fmd_int, circ]
    have h1 := Int.emod_nonneg x.toInt (by decide : (1296000 : Int) ≠ 0)
    have h2 := Int.emod_lt_of_pos x.toInt (by decide : (0 : Int) < 1296000)
    exact Int.bmod_eq_of_le (by omega) (by omega)
/-- cell: some number -/
theorem m_L_cell {d L : Nat} {xs : Nat → Int32} {C : Nat → Nat → Int32} {p : Nat → Option Nat} {k : Nat} (hL : L ≤ 260) (hk : k < 60) {K : Int32 → aW → Prop} (h : ∀ v, K v (am_w zN C p)) : am_CXi L xs (d + 1) 164 [.retAddr 0, .int (nI k)] (am_w zN C p) K := by
  refine e_L_cell (s_L_cell_0 ⟨fun _ => ⟨h _, rfl⟩, fun h2 => ⟨?_, h _, rfl⟩⟩)
  have : k < L := by
    apply Nat.not_le.mp
    intro hle
    exact h2 ((le5 (by omega) (by omega)).mpr hle)
  exact vpi this (by omega)
theorem nI_nn {n : Nat} (h : n < 5000) : -2000005 ≤ (nI n).toInt := by rw [nI_toI h]; omega
theorem nr_rg (x : Int32) : -648000 < (nr x).toInt ∧ (nr x).toInt ≤ 648000 := by
  have h1 := Int.emod_nonneg x.toInt (by decide : (1296000 : Int) ≠ 0)
  have h2 := Int.emod_lt_of_pos x.toInt (by decide : (0 : Int) < 1296000)
  unfold nr
  split
  · rw [Int32.toInt_ofInt_of_le (by omega) (by omega)]; omega
  · rw [Int32.toInt_ofInt_of_le (by omega) (by omega)]; omega
