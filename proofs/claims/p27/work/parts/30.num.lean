/-! numbers -/
variable {zN : Nat}
theorem nI_mul (a b : Nat) : nI a * nI b = nI (a * b) := (Int32.ofNat_mul a b).symm
theorem qr_key {x y : Int} (hy : 0 < y) : (0 ≤ x.tmod y ∧ x / y = x.tdiv y ∧ x % y = x.tmod y) ∨ (x.tmod y < 0 ∧ x / y = x.tdiv y - 1 ∧ x % y = x.tmod y + y) := by
  have h1 := Int.mul_tdiv_add_tmod x y
  obtain ⟨h2, h3⟩ := tmod_bounds (a := x) hy
  by_cases h : 0 ≤ x.tmod y
  · left
    have := (Int.ediv_emod_unique (a := x) (b := y) (r := x.tmod y) (q := x.tdiv y) hy).mpr ⟨by omega, h, h3⟩
    exact ⟨h, this.1, this.2⟩
  · right
    have := (Int.ediv_emod_unique (a := x) (b := y) (r := x.tmod y + y) (q := x.tdiv y - 1) hy).mpr ⟨by rw [Int.mul_sub, Int.mul_one]; omega, by omega, by omega⟩
    exact ⟨by omega, this.1, this.2⟩
theorem tmod_sign {x y : Int} (hy : 0 < y) : (0 ≤ x → 0 ≤ x.tmod y) ∧ (x < 0 → x.tmod y ≤ 0) := by
  refine ⟨fun h => Int.tmod_nonneg _ h, fun h => ?_⟩
  have h1 : (-x).tmod y = -(x.tmod y) := Int.neg_tmod x y
  have h2 : 0 ≤ (-x).tmod y := Int.tmod_nonneg _ (by omega)
  omega
theorem I_div {x y : Int32} (hy : 0 < y.toInt) : (x / y).toInt = x.toInt.tdiv y.toInt := by
  refine Int32.toInt_div_of_ne_right x y ?_
  intro h
  rw [h] at hy
  exact absurd hy (by decide)
theorem I_qm {x y : Int32} (hy : 0 < y.toInt) : (x / y * y).toInt = x.toInt - x.toInt.tmod y.toInt := by
  rw [Int32.toInt_mul, I_div hy]
  have h1 := Int.mul_tdiv_add_tmod x.toInt y.toInt
  have h2 := tmod_sign (x := x.toInt) hy
  obtain ⟨h3, h4⟩ := tmod_bounds (a := x.toInt) hy
  have hx1 := x.toInt_lt
  have hx2 := x.le_toInt
  have e : x.toInt.tdiv y.toInt * y.toInt = x.toInt - x.toInt.tmod y.toInt := by rw [Int.mul_comm]; omega
  have hy1 := y.toInt_lt
  rw [e]
  apply Int.bmod_eq_of_le
  · by_cases h : 0 ≤ x.toInt
    · have := h2.1 h; have : x.toInt.tmod y.toInt ≤ x.toInt := by
        have hq : 0 ≤ x.toInt.tdiv y.toInt := Int.tdiv_nonneg h (by omega)
        have := Int.mul_nonneg (by omega : (0:Int) ≤ y.toInt) hq
        omega
      omega
    · have := h2.2 (by omega); omega
  · by_cases h : 0 ≤ x.toInt
    · have := h2.1 h; omega
    · have h5 := h2.2 (by omega)
      have hq : 0 ≤ (-x.toInt).tdiv y.toInt := Int.tdiv_nonneg (by omega) (by omega)
      rw [Int.neg_tdiv] at hq
      have := Int.mul_nonneg (by omega : (0:Int) ≤ y.toInt) hq
      rw [Int.mul_neg] at this
      omega
theorem I_rem {x y : Int32} (hy : 0 < y.toInt) : (x - x / y * y).toInt = x.toInt.tmod y.toInt := by
  rw [Int32.toInt_sub, I_qm hy, show x.toInt - (x.toInt - x.toInt.tmod y.toInt) = x.toInt.tmod y.toInt by omega]
  obtain ⟨h3, h4⟩ := tmod_bounds (a := x.toInt) hy
  have hy1 := y.toInt_lt
  exact Int.bmod_eq_of_le (by omega) (by omega)
theorem xor_sign (x y : Int32) : 0 ≤ x ^^^ y ↔ (x.toInt < 0 ↔ y.toInt < 0) := by
  rw [Int32.le_iff_toInt_le]
  have h1 : (x ^^^ y).toInt = (x.toBitVec ^^^ y.toBitVec).toInt := rfl
  have h2 : (x.toBitVec ^^^ y.toBitVec).msb = decide ((x.toBitVec ^^^ y.toBitVec).toInt < 0) := BitVec.msb_eq_toInt
  have h3 : x.toBitVec.msb = decide (x.toInt < 0) := BitVec.msb_eq_toInt
  have h4 : y.toBitVec.msb = decide (y.toInt < 0) := BitVec.msb_eq_toInt
  rw [BitVec.msb_xor, h3, h4] at h2
  rw [h1]
  show (0 : Int) ≤ _ ↔ _
  by_cases a : x.toInt < 0 <;> by_cases b : y.toInt < 0 <;> simp [a, b] at h2 ⊢ <;> omega
def fdv (x y : Int32) : Int32 := Int32.ofInt (x.toInt / y.toInt)
def fmd (x : Int32) : Int32 := Int32.ofInt (x.toInt % 1296000)
def nr (x : Int32) : Int32 := Int32.ofInt (if x.toInt % 1296000 ≤ 648000 then x.toInt % 1296000 else x.toInt % 1296000 - 1296000)
def av (x : Int32) : Int32 := if 0 ≤ x then x else 0 - x
theorem fmd_int (x : Int32) : (fmd x).toInt = x.toInt % 1296000 := by
  have h1 := Int.emod_nonneg x.toInt (by decide : (1296000 : Int) ≠ 0)
  have h2 := Int.emod_lt_of_pos x.toInt (by decide : (0 : Int) < 1296000)
  exact Int32.toInt_ofInt_of_le (by omega) (by omega)
theorem fmd_lo (x : Int32) : 0 ≤ (fmd x).toInt := by rw [fmd_int]; exact Int.emod_nonneg _ (by decide)
theorem fmd_hi (x : Int32) : (fmd x).toInt < 1296000 := by rw [fmd_int]; exact Int.emod_lt_of_pos _ (by decide)
theorem toI_eq {x : Int32} {z : Int} (h : x.toInt = z) : x = Int32.ofInt z := by rw [← h, Int32.ofInt_toInt]
theorem sub1_toI {x : Int32} (h : -2147483648 < x.toInt) : (x - 1).toInt = x.toInt - 1 := by
  rw [Int32.toInt_sub]
  have := x.toInt_lt
  exact Int.bmod_eq_of_le (by have : (1 : Int32).toInt = 1 := by decide
                              omega) (by have : (1 : Int32).toInt = 1 := by decide
                                         omega)
theorem tdiv_low {x y : Int32} (hy : 0 < y.toInt) (hr : x.toInt.tmod y.toInt < 0) : -2147483648 < x.toInt.tdiv y.toInt := by
  have h1 := Int.mul_tdiv_add_tmod x.toInt y.toInt
  have hx2 := x.le_toInt
  apply Int.not_le.mp
  intro hq
  have : y.toInt * x.toInt.tdiv y.toInt ≤ 1 * x.toInt.tdiv y.toInt := Int.mul_le_mul_of_nonpos_right (by omega) (by omega)
  omega
theorem fdv_pos {x y : Int32} (hy : 0 < y.toInt) (h : 0 ≤ x.toInt.tmod y.toInt) : x / y = fdv x y := by
  rcases qr_key (x := x.toInt) hy with ⟨-, h2, -⟩ | ⟨h1, -, -⟩
  · exact toI_eq (by rw [I_div hy, h2])
  · omega
theorem fdv_neg {x y : Int32} (hy : 0 < y.toInt) (h : x.toInt.tmod y.toInt < 0) : x / y - 1 = fdv x y := by
  rcases qr_key (x := x.toInt) hy with ⟨h1, -, -⟩ | ⟨-, h2, -⟩
  · omega
  · refine toI_eq ?_
    rw [sub1_toI (by rw [I_div hy]; exact tdiv_low hy h), I_div hy, h2]
theorem m_J_floorDiv {d : Nat} {C : Nat → Nat → Int32} {p : Nat → Option Nat} {x y : Int32} (hy : 0 < y.toInt) : cI zN (d + 1) 159 [.int x, .int y] C p (fdv x y) C p := by
  have hs := tmod_sign (x := x.toInt) hy
  have hqm := I_qm (x := x) hy
  refine e_J_floorDiv (s_J_floorDiv_0 ⟨?_, fun h => ret_I' ?_ rfl rfl, fun h => ⟨fun h2 => ret_I' ?_ rfl rfl, fun h2 => ret_I' ?_ rfl rfl⟩⟩)
  · intro e; rw [e] at hy; exact absurd hy (by decide)
  · rw [xor_sign] at h
    exact fdv_pos hy (hs.1 (by have : ¬ y.toInt < 0 := by omega
                               have := mt h.mp this
                               omega))
  · have := congrArg Int32.toInt h2
    rw [hqm] at this
    exact fdv_pos hy (by omega)
  · rw [xor_sign] at h
    refine fdv_neg hy ?_
    have hx : x.toInt < 0 := by
      apply Classical.byContradiction
      intro hx
      exact h ⟨fun a => absurd a hx, fun a => by omega⟩
    have := hs.2 hx
    have hne : x.toInt.tmod y.toInt ≠ 0 := by
      intro e
      apply h2
      apply Int32.toInt_inj.mp
      rw [hqm, e]
      omega
    omega
theorem circ : (1296000 : Int32).toInt = 1296000 := by decide
theorem circ0 : ¬ (1296000 : Int32) = 0 := by decide
theorem I_remc (x : Int32) : (x - x / 1296000 * 1296000).toInt = x.toInt.tmod 1296000 := I_rem (y := 1296000) (by decide)
theorem fmd_pos {x : Int32} (h : 0 ≤ x.toInt.tmod 1296000) : x - x / 1296000 * 1296000 = fmd x := by
  rcases qr_key (x := x.toInt) (y := 1296000) (by decide) with ⟨-, -, h2⟩ | ⟨h1, -, -⟩
  · exact toI_eq (by rw [I_remc, h2])
  · omega
theorem remc_add {x : Int32} : (x - x / 1296000 * 1296000 + 1296000).toInt = x.toInt.tmod 1296000 + 1296000 := by
  rw [Int32.toInt_add, I_remc, circ]
  obtain ⟨h3, h4⟩ := tmod_bounds (a := x.toInt) (M := 1296000) (by decide)
  exact Int.bmod_eq_of_le (by omega) (by omega)
theorem remc_sub {x : Int32} : (x - x / 1296000 * 1296000 - 1296000).toInt = x.toInt.tmod 1296000 - 1296000 := by
  rw [Int32.toInt_sub, I_remc, circ]
  obtain ⟨h3, h4⟩ := tmod_bounds (a := x.toInt) (M := 1296000) (by decide)
  exact Int.bmod_eq_of_le (by omega) (by omega)
theorem fmd_neg {x : Int32} (h : x.toInt.tmod 1296000 < 0) : x - x / 1296000 * 1296000 + 1296000 = fmd x := by
  rcases qr_key (x := x.toInt) (y := 1296000) (by decide) with ⟨h1, -, -⟩ | ⟨-, -, h2⟩
  · omega
  · exact toI_eq (by rw [remc_add, h2])
theorem m_J_floorMod {d : Nat} {C : Nat → Nat → Int32} {p : Nat → Option Nat} {x : Int32} : cI zN (d + 1) 160 [.int x, .int 1296000] C p (fmd x) C p := by
  have hs := tmod_sign (x := x.toInt) (y := 1296000) (by decide)
  refine e_J_floorMod (s_J_floorMod_0 ⟨circ0, fun h => ret_I' ?_ rfl rfl, fun h => ⟨fun h2 => ret_I' ?_ rfl rfl, fun h2 => ret_I' ?_ rfl rfl⟩⟩)
  · rw [xor_sign, circ] at h
    exact fmd_pos (hs.1 (by omega))
  · have := congrArg Int32.toInt h2
    rw [I_remc] at this
    exact fmd_pos (by rw [this]; decide)
  · rw [xor_sign, circ] at h
    refine fmd_neg ?_
    have := hs.2 (by omega)
    have hne : x.toInt.tmod 1296000 ≠ 0 := by
      intro e
      apply h2
      apply Int32.toInt_inj.mp
      rw [I_remc, e]
      rfl
    omega
theorem half : (648000 : Int32).toInt = 648000 := by decide
theorem m_F_nearZero {d : Nat} {C : Nat → Nat → Int32} {p : Nat → Option Nat} {x : Int32} : cI zN (d + 1) 79 [.int x] C p (nr x) C p := by
  obtain ⟨h3, h4⟩ := tmod_bounds (a := x.toInt) (M := 1296000) (by decide)
  have hm : (-648000 : Int32).toInt = -648000 := by decide
  have hq := qr_key (x := x.toInt) (y := 1296000) (by decide)
  refine e_F_nearZero (s_F_nearZero_0 ⟨circ0, fun h => ⟨fun h2 => ret_I' (toI_eq ?_) rfl rfl, fun h2 => ret_I' (toI_eq ?_) rfl rfl⟩, fun h => ret_I' (toI_eq ?_) rfl rfl⟩)
  · rw [Int32.le_iff_toInt_le, I_remc, half] at h
    rw [Int32.lt_iff_toInt_lt, I_remc, hm] at h2
    rw [I_remc]
    split <;> omega
  · rw [Int32.le_iff_toInt_le, I_remc, half] at h
    rw [Int32.lt_iff_toInt_lt, I_remc, hm] at h2
    rw [remc_add]
    split <;> omega
  · rw [Int32.le_iff_toInt_le, I_remc, half] at h
    rw [remc_sub]
    split <;> omega