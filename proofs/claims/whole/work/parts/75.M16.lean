/-! the model: putAside, putBack -/
section
variable {d : Nat} {C : Nat → Nat → Int32} {p : Nat → Option Nat}
theorem m_M_putAside : cV (d + 1) 93 [.ref 74] C p (rowc C 76 75 0 1028) p := by
  have loop : ∀ j x, x + j = 1028 → am_At (d + 1) 93 none (am_Ret (am_eV (rowc C 76 75 0 1028) p)) 2 [some (.ref 74), some (.int (nI x))] [] (am_w (rowc C 76 75 0 x) p) (0, 0) := by
    intro j
    induction j with
    | zero =>
      intro x hx
      have hx' : x = 1028 := by omega
      subst hx'
      exact s_M_putAside_2 ⟨fun _ => ret_V' rfl rfl, fun h => absurd (by decide) h⟩
    | succ j ih =>
      intro x hx
      apply s_M_putAside_2
      rw [cl (by omega), nI_1]
      have hr := rowc_s (C := C) (a := 76) (b := 75) (o := 0) (x := x) (by decide)
      rw [Nat.zero_add] at hr
      rw [hr]
      exact ⟨fun h => absurd ((le5 (a := 1028) (by omega) (by omega)).mp h) (by omega), fun _ => ⟨vpi (by omega) (by decide), vpi (by omega) (by decide), ih (x + 1) (by omega)⟩⟩
  have h0 := loop 1028 0 (by omega)
  rw [rowc_0] at h0
  exact e_M_putAside (s_M_putAside_0 h0)
theorem m_M_putBack : cV (d + 1) 94 [.ref 74] C p (rowc C 75 76 0 1028) p := by
  have loop : ∀ j x, x + j = 1028 → am_At (d + 1) 94 none (am_Ret (am_eV (rowc C 75 76 0 1028) p)) 2 [some (.ref 74), some (.int (nI x))] [] (am_w (rowc C 75 76 0 x) p) (0, 0) := by
    intro j
    induction j with
    | zero =>
      intro x hx
      have hx' : x = 1028 := by omega
      subst hx'
      exact s_M_putBack_2 ⟨fun _ => ret_V' rfl rfl, fun h => absurd (by decide) h⟩
    | succ j ih =>
      intro x hx
      apply s_M_putBack_2
      rw [cl (by omega), nI_1]
      have hr := rowc_s (C := C) (a := 75) (b := 76) (o := 0) (x := x) (by decide)
      rw [Nat.zero_add] at hr
      rw [hr]
      exact ⟨fun h => absurd ((le5 (a := 1028) (by omega) (by omega)).mp h) (by omega), fun _ => ⟨vpi (by omega) (by decide), vpi (by omega) (by decide), ih (x + 1) (by omega)⟩⟩
  have h0 := loop 1028 0 (by omega)
  rw [rowc_0] at h0
  exact e_M_putBack (s_M_putBack_0 h0)
end
