/-! copyFrom -/
variable {zN : Nat}
def ln (k : Nat) : Nat := [4, 4, 4, 6, 48, 48, 288, 288, 288].getD k 0
/-- the first k rows of the state at b in the state at a -/
def cp (k : Nat) (C : Nat → Nat → Int32) (a b : Nat) : Nat → Nat → Int32 := fun x i => if x = a ∧ i < 2 then C b i else if a < x ∧ x ≤ a + k ∧ i < ln (x - a - 1) then C (b + (x - a)) i else C x i
theorem at_C {d k : Nat} {sx : Option (Nat × (Nat → Int32))} {Post : Option Value → aW → Prop} {pc : Nat} {lc : aL} {st : List Value} {u : Nat × Nat} {C1 C2 : Nat → Nat → Int32} {p : Nat → Option Nat} (h : C1 = C2) (q : am_At d k sx Post pc lc st (am_w zN C2 p) u) : am_At d k sx Post pc lc st (am_w zN C1 p) u := by
  rw [h]
  exact q
theorem cp_zero {C : Nat → Nat → Int32} {a b : Nat} (hab : a + 10 ≤ b ∨ b + 10 ≤ a) : am_u2 (am_u2 C a 0 (C b 0)) a 1 (am_u2 C a 0 (C b 0) b 1) = cp 0 C a b := by
  funext x i
  simp only [am_u2_at, cp]
  have hba : ¬ b = a := by omega
  by_cases hx : x = a
  · subst hx
    by_cases h0 : i = 0
    · subst h0
      simp
    · by_cases h1 : i = 1
      · subst h1
        simp [hba]
      · simp [h0, h1, show ¬ i < 2 by omega]
  · rw [if_neg (fun q => hx q.1), if_neg (fun q => hx q.1), if_neg (fun q => hx q.1), if_neg (by omega)]
theorem cp_step {C : Nat → Nat → Int32} {a b k z1 z2 n : Nat} (hab : a + 10 ≤ b ∨ b + 10 ≤ a) (hk : k < 9) (h1 : z1 = 0) (h2 : z2 = 0) (hn : n = ln k) : am_uR (cp k C a b) (a + 1 + k) (va_cpy (cp k C a b (b + 1 + k)) (cp k C a b (a + 1 + k)) z1 z2 n) = cp (k + 1) C a b := by
  subst h1 h2 hn
  funext x i
  by_cases hx : x = a + 1 + k
  · subst hx
    have hb : cp k C a b (b + 1 + k) i = C (b + 1 + k) i := by
      simp only [cp]
      rw [if_neg (by omega), if_neg (by omega)]
    have ha : cp k C a b (a + 1 + k) i = C (a + 1 + k) i := by
      simp only [cp]
      rw [if_neg (by omega), if_neg (by omega)]
    have e : a + 1 + k - a - 1 = k := by omega
    have e2 : b + (a + 1 + k - a) = b + 1 + k := by omega
    simp only [am_uR, if_pos, va_cpy, Nat.zero_add, Nat.sub_zero, Nat.zero_le, true_and]
    rw [hb, ha]
    simp only [cp]
    rw [if_neg (show ¬ (a + 1 + k = a ∧ i < 2) by omega), e, e2]
    by_cases hi : i < ln k
    · rw [if_pos hi, if_pos ⟨by omega, by omega, hi⟩]
    · rw [if_neg hi, if_neg (fun q => hi q.2.2)]
  · have : (a < x ∧ x ≤ a + (k + 1) ∧ i < ln (x - a - 1)) ↔ (a < x ∧ x ≤ a + k ∧ i < ln (x - a - 1)) := by omega
    simp only [am_uR, if_neg hx, cp, this]
theorem cp_other {C : Nat → Nat → Int32} {a b k x i : Nat} (h : x < a ∨ a + k < x) : cp k C a b x i = C x i := by
  simp only [cp]
  rw [if_neg (by omega), if_neg (by omega)]
theorem cp_at {C : Nat → Nat → Int32} {a b j i : Nat} (hj : j < 9) (hi : i < ln j) : cp 9 C a b (a + 1 + j) i = C (b + 1 + j) i := by
  simp only [cp]
  rw [if_neg (by omega), show a + 1 + j - a - 1 = j by omega, if_pos ⟨by omega, by omega, hi⟩, show b + (a + 1 + j - a) = b + 1 + j by omega]
theorem cp_at0 {C : Nat → Nat → Int32} {a b i : Nat} (hi : i < 2) : cp 9 C a b a i = C b i := by
  simp [cp, hi]
section
variable {d : Nat} {C : Nat → Nat → Int32} {p : Nat → Option Nat}
theorem m_cp_11_1 (h : ∀ i, i < 288 → C 10 i = 0 ∨ C 10 i = 1) : cV zN (d + 1) 31 [.ref 11, .ref 1] C p (cp 9 C 11 1) p := by
  have hab : 11 + 10 ≤ 1 ∨ 1 + 10 ≤ 11 := by decide
  apply e_S_copyFrom_11_1
  apply s_S_copyFrom_11_1_0
  refine ⟨by decide, by decide, by decide, by decide, by decide, ?_⟩
  rw [cp_zero hab]
  refine at_C (cp_step (a := 11) (b := 1) (k := 0) hab (by decide) rfl rfl rfl) ?_
  apply s_S_copyFrom_11_1_30
  refine ⟨by decide, by decide, by decide, by decide, by decide, at_C (cp_step (a := 11) (b := 1) (k := 1) hab (by decide) rfl rfl rfl) ?_⟩
  apply s_S_copyFrom_11_1_44
  refine ⟨by decide, by decide, by decide, by decide, by decide, at_C (cp_step (a := 11) (b := 1) (k := 2) hab (by decide) rfl rfl rfl) ?_⟩
  apply s_S_copyFrom_11_1_58
  refine ⟨by decide, by decide, by decide, by decide, by decide, at_C (cp_step (a := 11) (b := 1) (k := 3) hab (by decide) rfl rfl rfl) ?_⟩
  apply s_S_copyFrom_11_1_73
  refine ⟨by decide, by decide, by decide, by decide, by decide, at_C (cp_step (a := 11) (b := 1) (k := 4) hab (by decide) rfl rfl rfl) ?_⟩
  apply s_S_copyFrom_11_1_88
  refine ⟨by decide, by decide, by decide, by decide, by decide, at_C (cp_step (a := 11) (b := 1) (k := 5) hab (by decide) rfl rfl rfl) ?_⟩
  apply s_S_copyFrom_11_1_103
  refine ⟨by decide, by decide, by decide, by decide, by decide, at_C (cp_step (a := 11) (b := 1) (k := 6) hab (by decide) rfl rfl rfl) ?_⟩
  apply s_S_copyFrom_11_1_119
  refine ⟨by decide, by decide, by decide, by decide, by decide, at_C (cp_step (a := 11) (b := 1) (k := 7) hab (by decide) rfl rfl rfl) ?_⟩
  apply s_S_copyFrom_11_1_135
  refine ⟨by decide, by decide, by decide, by decide, by decide, fun i hi => ?_, at_C (cp_step (a := 11) (b := 1) (k := 8) hab (by decide) rfl rfl rfl) ?_⟩
  · rw [show (0 : Int32).toNatClampNeg = 0 from rfl, Nat.zero_add, cp_other (by decide)]
    exact h i hi
  exact s_S_copyFrom_11_1_151 (ret_V' rfl rfl)
theorem m_cp_1_11 (h : ∀ i, i < 288 → C 20 i = 0 ∨ C 20 i = 1) : cV zN (d + 1) 31 [.ref 1, .ref 11] C p (cp 9 C 1 11) p := by
  have hab : 1 + 10 ≤ 11 ∨ 11 + 10 ≤ 1 := by decide
  apply e_S_copyFrom_1_11
  apply s_S_copyFrom_1_11_0
  refine ⟨by decide, by decide, by decide, by decide, by decide, ?_⟩
  rw [cp_zero hab]
  refine at_C (cp_step (a := 1) (b := 11) (k := 0) hab (by decide) rfl rfl rfl) ?_
  apply s_S_copyFrom_1_11_30
  refine ⟨by decide, by decide, by decide, by decide, by decide, at_C (cp_step (a := 1) (b := 11) (k := 1) hab (by decide) rfl rfl rfl) ?_⟩
  apply s_S_copyFrom_1_11_44
  refine ⟨by decide, by decide, by decide, by decide, by decide, at_C (cp_step (a := 1) (b := 11) (k := 2) hab (by decide) rfl rfl rfl) ?_⟩
  apply s_S_copyFrom_1_11_58
  refine ⟨by decide, by decide, by decide, by decide, by decide, at_C (cp_step (a := 1) (b := 11) (k := 3) hab (by decide) rfl rfl rfl) ?_⟩
  apply s_S_copyFrom_1_11_73
  refine ⟨by decide, by decide, by decide, by decide, by decide, at_C (cp_step (a := 1) (b := 11) (k := 4) hab (by decide) rfl rfl rfl) ?_⟩
  apply s_S_copyFrom_1_11_88
  refine ⟨by decide, by decide, by decide, by decide, by decide, at_C (cp_step (a := 1) (b := 11) (k := 5) hab (by decide) rfl rfl rfl) ?_⟩
  apply s_S_copyFrom_1_11_103
  refine ⟨by decide, by decide, by decide, by decide, by decide, at_C (cp_step (a := 1) (b := 11) (k := 6) hab (by decide) rfl rfl rfl) ?_⟩
  apply s_S_copyFrom_1_11_119
  refine ⟨by decide, by decide, by decide, by decide, by decide, at_C (cp_step (a := 1) (b := 11) (k := 7) hab (by decide) rfl rfl rfl) ?_⟩
  apply s_S_copyFrom_1_11_135
  refine ⟨by decide, by decide, by decide, by decide, by decide, fun i hi => ?_, at_C (cp_step (a := 1) (b := 11) (k := 8) hab (by decide) rfl rfl rfl) ?_⟩
  · rw [show (0 : Int32).toNatClampNeg = 0 from rfl, Nat.zero_add, cp_other (by decide)]
    exact h i hi
  exact s_S_copyFrom_1_11_151 (ret_V' rfl rfl)
theorem m_cp_23_1 (h : ∀ i, i < 288 → C 10 i = 0 ∨ C 10 i = 1) : cV zN (d + 1) 31 [.ref 23, .ref 1] C p (cp 9 C 23 1) p := by
  have hab : 23 + 10 ≤ 1 ∨ 1 + 10 ≤ 23 := by decide
  apply e_S_copyFrom_23_1
  apply s_S_copyFrom_23_1_0
  refine ⟨by decide, by decide, by decide, by decide, by decide, ?_⟩
  rw [cp_zero hab]
  refine at_C (cp_step (a := 23) (b := 1) (k := 0) hab (by decide) rfl rfl rfl) ?_
  apply s_S_copyFrom_23_1_30
  refine ⟨by decide, by decide, by decide, by decide, by decide, at_C (cp_step (a := 23) (b := 1) (k := 1) hab (by decide) rfl rfl rfl) ?_⟩
  apply s_S_copyFrom_23_1_44
  refine ⟨by decide, by decide, by decide, by decide, by decide, at_C (cp_step (a := 23) (b := 1) (k := 2) hab (by decide) rfl rfl rfl) ?_⟩
  apply s_S_copyFrom_23_1_58
  refine ⟨by decide, by decide, by decide, by decide, by decide, at_C (cp_step (a := 23) (b := 1) (k := 3) hab (by decide) rfl rfl rfl) ?_⟩
  apply s_S_copyFrom_23_1_73
  refine ⟨by decide, by decide, by decide, by decide, by decide, at_C (cp_step (a := 23) (b := 1) (k := 4) hab (by decide) rfl rfl rfl) ?_⟩
  apply s_S_copyFrom_23_1_88
  refine ⟨by decide, by decide, by decide, by decide, by decide, at_C (cp_step (a := 23) (b := 1) (k := 5) hab (by decide) rfl rfl rfl) ?_⟩
  apply s_S_copyFrom_23_1_103
  refine ⟨by decide, by decide, by decide, by decide, by decide, at_C (cp_step (a := 23) (b := 1) (k := 6) hab (by decide) rfl rfl rfl) ?_⟩
  apply s_S_copyFrom_23_1_119
  refine ⟨by decide, by decide, by decide, by decide, by decide, at_C (cp_step (a := 23) (b := 1) (k := 7) hab (by decide) rfl rfl rfl) ?_⟩
  apply s_S_copyFrom_23_1_135
  refine ⟨by decide, by decide, by decide, by decide, by decide, fun i hi => ?_, at_C (cp_step (a := 23) (b := 1) (k := 8) hab (by decide) rfl rfl rfl) ?_⟩
  · rw [show (0 : Int32).toNatClampNeg = 0 from rfl, Nat.zero_add, cp_other (by decide)]
    exact h i hi
  exact s_S_copyFrom_23_1_151 (ret_V' rfl rfl)
theorem m_cp_33_1 (h : ∀ i, i < 288 → C 10 i = 0 ∨ C 10 i = 1) : cV zN (d + 1) 31 [.ref 33, .ref 1] C p (cp 9 C 33 1) p := by
  have hab : 33 + 10 ≤ 1 ∨ 1 + 10 ≤ 33 := by decide
  apply e_S_copyFrom_33_1
  apply s_S_copyFrom_33_1_0
  refine ⟨by decide, by decide, by decide, by decide, by decide, ?_⟩
  rw [cp_zero hab]
  refine at_C (cp_step (a := 33) (b := 1) (k := 0) hab (by decide) rfl rfl rfl) ?_
  apply s_S_copyFrom_33_1_30
  refine ⟨by decide, by decide, by decide, by decide, by decide, at_C (cp_step (a := 33) (b := 1) (k := 1) hab (by decide) rfl rfl rfl) ?_⟩
  apply s_S_copyFrom_33_1_44
  refine ⟨by decide, by decide, by decide, by decide, by decide, at_C (cp_step (a := 33) (b := 1) (k := 2) hab (by decide) rfl rfl rfl) ?_⟩
  apply s_S_copyFrom_33_1_58
  refine ⟨by decide, by decide, by decide, by decide, by decide, at_C (cp_step (a := 33) (b := 1) (k := 3) hab (by decide) rfl rfl rfl) ?_⟩
  apply s_S_copyFrom_33_1_73
  refine ⟨by decide, by decide, by decide, by decide, by decide, at_C (cp_step (a := 33) (b := 1) (k := 4) hab (by decide) rfl rfl rfl) ?_⟩
  apply s_S_copyFrom_33_1_88
  refine ⟨by decide, by decide, by decide, by decide, by decide, at_C (cp_step (a := 33) (b := 1) (k := 5) hab (by decide) rfl rfl rfl) ?_⟩
  apply s_S_copyFrom_33_1_103
  refine ⟨by decide, by decide, by decide, by decide, by decide, at_C (cp_step (a := 33) (b := 1) (k := 6) hab (by decide) rfl rfl rfl) ?_⟩
  apply s_S_copyFrom_33_1_119
  refine ⟨by decide, by decide, by decide, by decide, by decide, at_C (cp_step (a := 33) (b := 1) (k := 7) hab (by decide) rfl rfl rfl) ?_⟩
  apply s_S_copyFrom_33_1_135
  refine ⟨by decide, by decide, by decide, by decide, by decide, fun i hi => ?_, at_C (cp_step (a := 33) (b := 1) (k := 8) hab (by decide) rfl rfl rfl) ?_⟩
  · rw [show (0 : Int32).toNatClampNeg = 0 from rfl, Nat.zero_add, cp_other (by decide)]
    exact h i hi
  exact s_S_copyFrom_33_1_151 (ret_V' rfl rfl)
theorem m_cp_43_1 (h : ∀ i, i < 288 → C 10 i = 0 ∨ C 10 i = 1) : cV zN (d + 1) 31 [.ref 43, .ref 1] C p (cp 9 C 43 1) p := by
  have hab : 43 + 10 ≤ 1 ∨ 1 + 10 ≤ 43 := by decide
  apply e_S_copyFrom_43_1
  apply s_S_copyFrom_43_1_0
  refine ⟨by decide, by decide, by decide, by decide, by decide, ?_⟩
  rw [cp_zero hab]
  refine at_C (cp_step (a := 43) (b := 1) (k := 0) hab (by decide) rfl rfl rfl) ?_
  apply s_S_copyFrom_43_1_30
  refine ⟨by decide, by decide, by decide, by decide, by decide, at_C (cp_step (a := 43) (b := 1) (k := 1) hab (by decide) rfl rfl rfl) ?_⟩
  apply s_S_copyFrom_43_1_44
  refine ⟨by decide, by decide, by decide, by decide, by decide, at_C (cp_step (a := 43) (b := 1) (k := 2) hab (by decide) rfl rfl rfl) ?_⟩
  apply s_S_copyFrom_43_1_58
  refine ⟨by decide, by decide, by decide, by decide, by decide, at_C (cp_step (a := 43) (b := 1) (k := 3) hab (by decide) rfl rfl rfl) ?_⟩
  apply s_S_copyFrom_43_1_73
  refine ⟨by decide, by decide, by decide, by decide, by decide, at_C (cp_step (a := 43) (b := 1) (k := 4) hab (by decide) rfl rfl rfl) ?_⟩
  apply s_S_copyFrom_43_1_88
  refine ⟨by decide, by decide, by decide, by decide, by decide, at_C (cp_step (a := 43) (b := 1) (k := 5) hab (by decide) rfl rfl rfl) ?_⟩
  apply s_S_copyFrom_43_1_103
  refine ⟨by decide, by decide, by decide, by decide, by decide, at_C (cp_step (a := 43) (b := 1) (k := 6) hab (by decide) rfl rfl rfl) ?_⟩
  apply s_S_copyFrom_43_1_119
  refine ⟨by decide, by decide, by decide, by decide, by decide, at_C (cp_step (a := 43) (b := 1) (k := 7) hab (by decide) rfl rfl rfl) ?_⟩
  apply s_S_copyFrom_43_1_135
  refine ⟨by decide, by decide, by decide, by decide, by decide, fun i hi => ?_, at_C (cp_step (a := 43) (b := 1) (k := 8) hab (by decide) rfl rfl rfl) ?_⟩
  · rw [show (0 : Int32).toNatClampNeg = 0 from rfl, Nat.zero_add, cp_other (by decide)]
    exact h i hi
  exact s_S_copyFrom_43_1_151 (ret_V' rfl rfl)
theorem m_cp_53_1 (h : ∀ i, i < 288 → C 10 i = 0 ∨ C 10 i = 1) : cV zN (d + 1) 31 [.ref 53, .ref 1] C p (cp 9 C 53 1) p := by
  have hab : 53 + 10 ≤ 1 ∨ 1 + 10 ≤ 53 := by decide
  apply e_S_copyFrom_53_1
  apply s_S_copyFrom_53_1_0
  refine ⟨by decide, by decide, by decide, by decide, by decide, ?_⟩
  rw [cp_zero hab]
  refine at_C (cp_step (a := 53) (b := 1) (k := 0) hab (by decide) rfl rfl rfl) ?_
  apply s_S_copyFrom_53_1_30
  refine ⟨by decide, by decide, by decide, by decide, by decide, at_C (cp_step (a := 53) (b := 1) (k := 1) hab (by decide) rfl rfl rfl) ?_⟩
  apply s_S_copyFrom_53_1_44
  refine ⟨by decide, by decide, by decide, by decide, by decide, at_C (cp_step (a := 53) (b := 1) (k := 2) hab (by decide) rfl rfl rfl) ?_⟩
  apply s_S_copyFrom_53_1_58
  refine ⟨by decide, by decide, by decide, by decide, by decide, at_C (cp_step (a := 53) (b := 1) (k := 3) hab (by decide) rfl rfl rfl) ?_⟩
  apply s_S_copyFrom_53_1_73
  refine ⟨by decide, by decide, by decide, by decide, by decide, at_C (cp_step (a := 53) (b := 1) (k := 4) hab (by decide) rfl rfl rfl) ?_⟩
  apply s_S_copyFrom_53_1_88
  refine ⟨by decide, by decide, by decide, by decide, by decide, at_C (cp_step (a := 53) (b := 1) (k := 5) hab (by decide) rfl rfl rfl) ?_⟩
  apply s_S_copyFrom_53_1_103
  refine ⟨by decide, by decide, by decide, by decide, by decide, at_C (cp_step (a := 53) (b := 1) (k := 6) hab (by decide) rfl rfl rfl) ?_⟩
  apply s_S_copyFrom_53_1_119
  refine ⟨by decide, by decide, by decide, by decide, by decide, at_C (cp_step (a := 53) (b := 1) (k := 7) hab (by decide) rfl rfl rfl) ?_⟩
  apply s_S_copyFrom_53_1_135
  refine ⟨by decide, by decide, by decide, by decide, by decide, fun i hi => ?_, at_C (cp_step (a := 53) (b := 1) (k := 8) hab (by decide) rfl rfl rfl) ?_⟩
  · rw [show (0 : Int32).toNatClampNeg = 0 from rfl, Nat.zero_add, cp_other (by decide)]
    exact h i hi
  exact s_S_copyFrom_53_1_151 (ret_V' rfl rfl)
theorem m_cp_1_23 (h : ∀ i, i < 288 → C 32 i = 0 ∨ C 32 i = 1) : cV zN (d + 1) 31 [.ref 1, .ref 23] C p (cp 9 C 1 23) p := by
  have hab : 1 + 10 ≤ 23 ∨ 23 + 10 ≤ 1 := by decide
  apply e_S_copyFrom_1_23
  apply s_S_copyFrom_1_23_0
  refine ⟨by decide, by decide, by decide, by decide, by decide, ?_⟩
  rw [cp_zero hab]
  refine at_C (cp_step (a := 1) (b := 23) (k := 0) hab (by decide) rfl rfl rfl) ?_
  apply s_S_copyFrom_1_23_30
  refine ⟨by decide, by decide, by decide, by decide, by decide, at_C (cp_step (a := 1) (b := 23) (k := 1) hab (by decide) rfl rfl rfl) ?_⟩
  apply s_S_copyFrom_1_23_44
  refine ⟨by decide, by decide, by decide, by decide, by decide, at_C (cp_step (a := 1) (b := 23) (k := 2) hab (by decide) rfl rfl rfl) ?_⟩
  apply s_S_copyFrom_1_23_58
  refine ⟨by decide, by decide, by decide, by decide, by decide, at_C (cp_step (a := 1) (b := 23) (k := 3) hab (by decide) rfl rfl rfl) ?_⟩
  apply s_S_copyFrom_1_23_73
  refine ⟨by decide, by decide, by decide, by decide, by decide, at_C (cp_step (a := 1) (b := 23) (k := 4) hab (by decide) rfl rfl rfl) ?_⟩
  apply s_S_copyFrom_1_23_88
  refine ⟨by decide, by decide, by decide, by decide, by decide, at_C (cp_step (a := 1) (b := 23) (k := 5) hab (by decide) rfl rfl rfl) ?_⟩
  apply s_S_copyFrom_1_23_103
  refine ⟨by decide, by decide, by decide, by decide, by decide, at_C (cp_step (a := 1) (b := 23) (k := 6) hab (by decide) rfl rfl rfl) ?_⟩
  apply s_S_copyFrom_1_23_119
  refine ⟨by decide, by decide, by decide, by decide, by decide, at_C (cp_step (a := 1) (b := 23) (k := 7) hab (by decide) rfl rfl rfl) ?_⟩
  apply s_S_copyFrom_1_23_135
  refine ⟨by decide, by decide, by decide, by decide, by decide, fun i hi => ?_, at_C (cp_step (a := 1) (b := 23) (k := 8) hab (by decide) rfl rfl rfl) ?_⟩
  · rw [show (0 : Int32).toNatClampNeg = 0 from rfl, Nat.zero_add, cp_other (by decide)]
    exact h i hi
  exact s_S_copyFrom_1_23_151 (ret_V' rfl rfl)
theorem m_cp_1_33 (h : ∀ i, i < 288 → C 42 i = 0 ∨ C 42 i = 1) : cV zN (d + 1) 31 [.ref 1, .ref 33] C p (cp 9 C 1 33) p := by
  have hab : 1 + 10 ≤ 33 ∨ 33 + 10 ≤ 1 := by decide
  apply e_S_copyFrom_1_33
  apply s_S_copyFrom_1_33_0
  refine ⟨by decide, by decide, by decide, by decide, by decide, ?_⟩
  rw [cp_zero hab]
  refine at_C (cp_step (a := 1) (b := 33) (k := 0) hab (by decide) rfl rfl rfl) ?_
  apply s_S_copyFrom_1_33_30
  refine ⟨by decide, by decide, by decide, by decide, by decide, at_C (cp_step (a := 1) (b := 33) (k := 1) hab (by decide) rfl rfl rfl) ?_⟩
  apply s_S_copyFrom_1_33_44
  refine ⟨by decide, by decide, by decide, by decide, by decide, at_C (cp_step (a := 1) (b := 33) (k := 2) hab (by decide) rfl rfl rfl) ?_⟩
  apply s_S_copyFrom_1_33_58
  refine ⟨by decide, by decide, by decide, by decide, by decide, at_C (cp_step (a := 1) (b := 33) (k := 3) hab (by decide) rfl rfl rfl) ?_⟩
  apply s_S_copyFrom_1_33_73
  refine ⟨by decide, by decide, by decide, by decide, by decide, at_C (cp_step (a := 1) (b := 33) (k := 4) hab (by decide) rfl rfl rfl) ?_⟩
  apply s_S_copyFrom_1_33_88
  refine ⟨by decide, by decide, by decide, by decide, by decide, at_C (cp_step (a := 1) (b := 33) (k := 5) hab (by decide) rfl rfl rfl) ?_⟩
  apply s_S_copyFrom_1_33_103
  refine ⟨by decide, by decide, by decide, by decide, by decide, at_C (cp_step (a := 1) (b := 33) (k := 6) hab (by decide) rfl rfl rfl) ?_⟩
  apply s_S_copyFrom_1_33_119
  refine ⟨by decide, by decide, by decide, by decide, by decide, at_C (cp_step (a := 1) (b := 33) (k := 7) hab (by decide) rfl rfl rfl) ?_⟩
  apply s_S_copyFrom_1_33_135
  refine ⟨by decide, by decide, by decide, by decide, by decide, fun i hi => ?_, at_C (cp_step (a := 1) (b := 33) (k := 8) hab (by decide) rfl rfl rfl) ?_⟩
  · rw [show (0 : Int32).toNatClampNeg = 0 from rfl, Nat.zero_add, cp_other (by decide)]
    exact h i hi
  exact s_S_copyFrom_1_33_151 (ret_V' rfl rfl)
theorem m_cp_1_43 (h : ∀ i, i < 288 → C 52 i = 0 ∨ C 52 i = 1) : cV zN (d + 1) 31 [.ref 1, .ref 43] C p (cp 9 C 1 43) p := by
  have hab : 1 + 10 ≤ 43 ∨ 43 + 10 ≤ 1 := by decide
  apply e_S_copyFrom_1_43
  apply s_S_copyFrom_1_43_0
  refine ⟨by decide, by decide, by decide, by decide, by decide, ?_⟩
  rw [cp_zero hab]
  refine at_C (cp_step (a := 1) (b := 43) (k := 0) hab (by decide) rfl rfl rfl) ?_
  apply s_S_copyFrom_1_43_30
  refine ⟨by decide, by decide, by decide, by decide, by decide, at_C (cp_step (a := 1) (b := 43) (k := 1) hab (by decide) rfl rfl rfl) ?_⟩
  apply s_S_copyFrom_1_43_44
  refine ⟨by decide, by decide, by decide, by decide, by decide, at_C (cp_step (a := 1) (b := 43) (k := 2) hab (by decide) rfl rfl rfl) ?_⟩
  apply s_S_copyFrom_1_43_58
  refine ⟨by decide, by decide, by decide, by decide, by decide, at_C (cp_step (a := 1) (b := 43) (k := 3) hab (by decide) rfl rfl rfl) ?_⟩
  apply s_S_copyFrom_1_43_73
  refine ⟨by decide, by decide, by decide, by decide, by decide, at_C (cp_step (a := 1) (b := 43) (k := 4) hab (by decide) rfl rfl rfl) ?_⟩
  apply s_S_copyFrom_1_43_88
  refine ⟨by decide, by decide, by decide, by decide, by decide, at_C (cp_step (a := 1) (b := 43) (k := 5) hab (by decide) rfl rfl rfl) ?_⟩
  apply s_S_copyFrom_1_43_103
  refine ⟨by decide, by decide, by decide, by decide, by decide, at_C (cp_step (a := 1) (b := 43) (k := 6) hab (by decide) rfl rfl rfl) ?_⟩
  apply s_S_copyFrom_1_43_119
  refine ⟨by decide, by decide, by decide, by decide, by decide, at_C (cp_step (a := 1) (b := 43) (k := 7) hab (by decide) rfl rfl rfl) ?_⟩
  apply s_S_copyFrom_1_43_135
  refine ⟨by decide, by decide, by decide, by decide, by decide, fun i hi => ?_, at_C (cp_step (a := 1) (b := 43) (k := 8) hab (by decide) rfl rfl rfl) ?_⟩
  · rw [show (0 : Int32).toNatClampNeg = 0 from rfl, Nat.zero_add, cp_other (by decide)]
    exact h i hi
  exact s_S_copyFrom_1_43_151 (ret_V' rfl rfl)
theorem m_cp_1_53 (h : ∀ i, i < 288 → C 62 i = 0 ∨ C 62 i = 1) : cV zN (d + 1) 31 [.ref 1, .ref 53] C p (cp 9 C 1 53) p := by
  have hab : 1 + 10 ≤ 53 ∨ 53 + 10 ≤ 1 := by decide
  apply e_S_copyFrom_1_53
  apply s_S_copyFrom_1_53_0
  refine ⟨by decide, by decide, by decide, by decide, by decide, ?_⟩
  rw [cp_zero hab]
  refine at_C (cp_step (a := 1) (b := 53) (k := 0) hab (by decide) rfl rfl rfl) ?_
  apply s_S_copyFrom_1_53_30
  refine ⟨by decide, by decide, by decide, by decide, by decide, at_C (cp_step (a := 1) (b := 53) (k := 1) hab (by decide) rfl rfl rfl) ?_⟩
  apply s_S_copyFrom_1_53_44
  refine ⟨by decide, by decide, by decide, by decide, by decide, at_C (cp_step (a := 1) (b := 53) (k := 2) hab (by decide) rfl rfl rfl) ?_⟩
  apply s_S_copyFrom_1_53_58
  refine ⟨by decide, by decide, by decide, by decide, by decide, at_C (cp_step (a := 1) (b := 53) (k := 3) hab (by decide) rfl rfl rfl) ?_⟩
  apply s_S_copyFrom_1_53_73
  refine ⟨by decide, by decide, by decide, by decide, by decide, at_C (cp_step (a := 1) (b := 53) (k := 4) hab (by decide) rfl rfl rfl) ?_⟩
  apply s_S_copyFrom_1_53_88
  refine ⟨by decide, by decide, by decide, by decide, by decide, at_C (cp_step (a := 1) (b := 53) (k := 5) hab (by decide) rfl rfl rfl) ?_⟩
  apply s_S_copyFrom_1_53_103
  refine ⟨by decide, by decide, by decide, by decide, by decide, at_C (cp_step (a := 1) (b := 53) (k := 6) hab (by decide) rfl rfl rfl) ?_⟩
  apply s_S_copyFrom_1_53_119
  refine ⟨by decide, by decide, by decide, by decide, by decide, at_C (cp_step (a := 1) (b := 53) (k := 7) hab (by decide) rfl rfl rfl) ?_⟩
  apply s_S_copyFrom_1_53_135
  refine ⟨by decide, by decide, by decide, by decide, by decide, fun i hi => ?_, at_C (cp_step (a := 1) (b := 53) (k := 8) hab (by decide) rfl rfl rfl) ?_⟩
  · rw [show (0 : Int32).toNatClampNeg = 0 from rfl, Nat.zero_add, cp_other (by decide)]
    exact h i hi
  exact s_S_copyFrom_1_53_151 (ret_V' rfl rfl)
end
