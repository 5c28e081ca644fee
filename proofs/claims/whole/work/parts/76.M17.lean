/-! the model: wipes -/
def wpC (C : Nat → Nat → Int32) (b n k x : Nat) : Nat → Nat → Int32 := fun y i => if y = 75 ∧ i = b then nI (n - 1) else if y = 75 ∧ b + 3 + 3 * k ≤ i ∧ i < x then C 75 (i + 3) else C y i
section
variable {d : Nat} {C : Nat → Nat → Int32} {p : Nat → Option Nat}
theorem m_M_wipes {b n k : Nat} (hb : b + 21 ≤ 1028) (hn : C 75 b = nI n) (hk : k < n) (h6 : n ≤ 6) : cI (d + 2) 125 [.ref 74, .int (nI b), .int (nI k)] C p 1 (wpC C b n k (b + 3 + 3 * (n - 1))) p := by
  have loop : ∀ j x, x + j = b + 3 + 3 * (n - 1) → b + 3 + 3 * k ≤ x → am_At (d + 2) 125 none (am_Ret (am_eI 1 (wpC C b n k (b + 3 + 3 * (n - 1))) p)) 27 [some (.ref 74), some (.int (nI b)), some (.int (nI k)), some (.int (nI x))] [] (am_w (wpC C b n k x) p) (0, 0) := by
    intro j
    induction j with
    | zero =>
      intro x hx hlo
      have hx' : x = b + 3 + 3 * (n - 1) := by omega
      subst hx'
      have e : wpC C b n k (b + 3 + 3 * (n - 1)) 75 b = nI (n - 1) := by simp [wpC]
      apply s_M_wipes_27
      rw [nI_p0, cl (by omega), e]
      refine ⟨vpi (by omega) (by decide), use_I (m_M_placed (w := 0)) (s_M_wipes_41 ⟨fun _ => ret_I' rfl rfl rfl, fun h => absurd ((le5 (by omega) (by omega)).mpr (by omega)) h⟩)⟩
    | succ j ih =>
      intro x hx hlo
      have e : wpC C b n k x 75 b = nI (n - 1) := by simp [wpC]
      apply s_M_wipes_27
      rw [nI_p0, cl (by omega), e]
      refine ⟨vpi (by omega) (by decide), use_I (m_M_placed (w := 0)) (s_M_wipes_41 ⟨fun h => absurd ((le5 (by omega) (by omega)).mp h) (by omega), fun _ => ?_⟩)⟩
      rw [show (3 : Int32) = nI 3 from rfl, nI_add, nI_1, cl (n := x) (by omega), cl (n := x + 3) (by omega)]
      refine ⟨vpi (by omega) (by decide), vpi (by omega) (by decide), ?_⟩
      have e2 : am_u2 (wpC C b n k x) 75 x (wpC C b n k x 75 (x + 3)) = wpC C b n k (x + 1) := by
        funext y i
        simp only [am_u2_at, wpC]
        by_cases hy : y = 75
        · subst hy
          by_cases hi : i = x
          · subst hi
            rw [if_pos ⟨rfl, rfl⟩, if_neg (by omega), if_neg (by omega), if_neg (by omega), if_pos (by omega)]
          · rw [if_neg (by omega)]
            by_cases hb2 : i = b
            · rw [if_pos ⟨rfl, hb2⟩, if_pos ⟨rfl, hb2⟩]
            · have hA : ¬ (75 = 75 ∧ i = b) := by omega
              rw [if_neg hA, if_neg hA]
              by_cases h3 : b + 3 + 3 * k ≤ i ∧ i < x
              · rw [if_pos (by omega), if_pos (by omega)]
              · rw [if_neg (by omega), if_neg (by omega)]
        · simp [hy]
      rw [e2]
      exact ih (x + 1) (by omega) (by omega)
  apply e_M_wipes
  apply s_M_wipes_0
  rw [nI_p0, cl (by omega), hn]
  have hv := vpi (n := b) (N := 1028) (by omega) (by decide)
  refine ⟨fun _ => ⟨hv, hv, use_I (m_M_placed (w := 0)) (s_M_wipes_26 ?_)⟩, fun h => absurd h (nI_ne (by omega)).2⟩
  have e1 : nI n - 1 = nI (n - 1) := by
    obtain ⟨m, rfl⟩ : ∃ m, n = m + 1 := ⟨n - 1, by omega⟩
    exact nI_pred m
  have e0 : am_u2 C 75 b (nI n - 1) = wpC C b n k (b + 3 + 3 * k + 0) := by
    funext y i
    rw [e1]
    simp only [am_u2_at, wpC]
    by_cases h : y = 75 ∧ i = b
    · rw [if_pos h, if_pos h]
    · rw [if_neg h, if_neg h, if_neg (by omega)]
  rw [e0]
  exact loop (3 * (n - 1) - 3 * k) (b + 3 + 3 * k + 0) (by omega) (by omega)
end
