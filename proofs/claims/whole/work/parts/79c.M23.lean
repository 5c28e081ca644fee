/-! the model: pointAll -/
theorem seeMd_ag {C D : Nat → Nat → Int32} {G : aGl} {A : aS} (h3 : D 74 3 = C 74 3) (h5 : D 74 5 = C 74 5) (h7 : D 74 7 = C 74 7) (h77 : D 77 = C 77) (h78 : D 78 = C 78) (h79 : D 79 = C 79) (hs : seeMd C G) (ha : seesM (D 75) A) : seeMd D (gcs G A) := by
  obtain ⟨-, b, c, e, f, g, h⟩ := hs
  refine ⟨ha, by rw [h5]; exact b, fun hk => by rw [h78]; exact c hk, by rw [h3]; exact e, by rw [h7]; exact f, by rw [h79]; exact g, fun i hi => ?_⟩
  rw [h77]
  exact h i hi
section
variable {d : Nat} {C : Nat → Nat → Int32} {p : Nat → Option Nat} {G : aGl}
theorem seeMd_go {D : Nat → Nat → Int32} {A : aS} (h : agG D C) (hs : seeMd C G) (ha : seesM (D 75) A) : seeMd D (gcs G A) :=
  seeMd_ag (h 74 3 (by decide) (by omega)) (h 74 5 (by decide) (by omega)) (h 74 7 (by decide) (by omega)) (funext fun j => h 77 j (by decide) (by omega)) (funext fun j => h 78 j (by decide) (by omega)) (funext fun j => h 79 j (by decide) (by omega)) hs ha
theorem M_pointAll {u r : Int32} (hg : gG G) (hs : seeMd C G) : am_Call (d + 5) 137 [.ref 74, .int u, .int r] (am_w C p) (am_Ret (fPm C p (oPointAll G u r))) := by
  apply e_M_pointAll
  apply s_M_pointAll_0
  refine use_I (m_M_isRound hs.1 hg.1) (s_M_pointAll_6 ⟨fun h1 => ?_, fun h => lfM0 hs (by rw [oPointAll, if_pos (bI_eq.mp h)])⟩)
  rw [bI_ne] at h1
  have E : oPointAll G u r = match pall (gtxt G).1 (gtxt G).2 8 0 with
      | (a, none) => (-2000100 - nI a, G)
      | (_, some l) => match addsA (cn u) (cn r) (gcur G) l with
        | none => (-2000004, G)
        | some B => (nI l.length, grec G B) := by
    rw [oPointAll, if_neg (by rw [h1]; decide)]
    rcases pall (gtxt G).1 (gtxt G).2 8 0 with ⟨a, _ | l⟩
    · rfl
    · cases h : addsA (cn u) (cn r) (gcur G) l <;> simp only [h]
  obtain ⟨un, rn, rfl, hu1, hu, rfl, hr1, hr⟩ := hrA_ok h1 hg.1
  rw [cn_nI (by omega), cn_nI (by omega)] at E
  have hL : C 74 7 = nI (gtxt G).1 := hs.2.2.2.2.1
  have h79 : C 79 = (gtxt G).2 := hs.2.2.2.2.2.1
  have h60 : (gtxt G).1 ≤ 60 := hg.2.2.2.2
  have h0 := m_M_go0 (d := d) (C := C) (p := p) (x1 := nI un) (x2 := nI rn) hL h60
  rw [h79] at h0
  refine use_IP (R := fun _ C' => C' = tC (am_u2 C 74 10 0) (pall (gtxt G).1 (gtxt G).2 8 0).1 (pall (gtxt G).1 (gtxt G).2 8 0).2.isNone) h0 (fun e0 C0 he0 => s_M_pointAll_19 ?_)
  have ag0 : agG C0 C := by
    rw [he0]
    exact agG_t (agG_s (fun _ _ _ _ => rfl))
  have c75 : C0 75 = C 75 := by
    rw [he0]
    funext j
    rw [tC_o (by omega), am_u2_ne (by decide)]
  have c8 : C0 74 8 = nI (pall (gtxt G).1 (gtxt G).2 8 0).1 := by rw [he0, tC_8]
  have c9 : C0 74 9 = bI (pall (gtxt G).1 (gtxt G).2 8 0).2.isNone := by rw [he0, tC_9]
  have hs0 : seeMd C0 G := seeMd_go (A := gcur G) ag0 hs (by rw [c75]; exact hs.1)
  have lo : ∀ {D : Nat → Nat → Int32}, agG D C → ∀ z, z < 74 → D z = C z := fun h z hz => funext fun j => h z j (by omega) (by omega)
  clear he0
  rcases hp : pall (gtxt G).1 (gtxt G).2 8 0 with ⟨a, _ | l⟩
  · rw [hp] at E c8 c9
    rw [c8, c9]
    exact ⟨fun q => absurd q (show ¬ bI true = 0 by decide), fun _ => lfM E rfl hs0 (lo ag0)⟩
  · rw [hp] at E c9
    rw [c9]
    refine ⟨fun _ => use_V m_M_putAside (s_M_pointAll_39 ?_), fun q => absurd rfl q⟩
    -- aside holds the row now
    have c76 : ∀ k, k < 1028 → rowc C0 76 75 0 1028 76 k = C 75 k := fun k hk => by rw [rowc_a hk, Nat.zero_add, c75]
    have o1 : ∀ y, y ≠ 76 → rowc C0 76 75 0 1028 y = C0 y := fun y hy => rowc_n hy
    generalize rowc C0 76 75 0 1028 = C1 at *
    have d75 : C1 75 = C 75 := by rw [o1 75 (by decide), c75]
    have dL : C1 74 7 = nI (gtxt G).1 := by rw [o1 74 (by decide), ag0 74 7 (by decide) (by omega)]; exact hL
    have d79 : C1 79 = (gtxt G).2 := by
      rw [o1 79 (by decide), ← h79]
      exact funext fun j => ag0 79 j (by decide) (by omega)
    have hp1 : pall (gtxt G).1 (C1 79) 8 0 = (a, some l) := by rw [d79]; exact hp
    refine use_IP (R := fun e C' => ∃ r', g1P C1 p un rn (gcur G) l 0 r' C' p ∧ r' = some (.int e)) (am_Call.mono (m_M_go1 (d := d) (C := C1) (p := p) dL h60 hg.1 (by rw [d75]; exact hs.1) hu1 hr1 hp1) (fun r' w' hw => ?_)) (fun e1 C2 he1 => s_M_pointAll_46 (use_V m_M_putBack (s_M_pointAll_51 ?_)))
    · obtain ⟨C', p', q1, q2⟩ := hw
      obtain ⟨e, q3, q4, q5⟩ := q2
      subst q4
      exact ⟨C', p', q1, e, q3, rfl, r', ⟨e, q3, rfl, q5⟩, q3⟩
    · obtain ⟨r', ⟨e, q3, -, ag2, q5, q6⟩, q7⟩ := he1
      have f75 : ∀ k, k < 1028 → rowc C2 75 76 0 1028 75 k = C 75 k := fun k hk => by
        rw [rowc_a hk, Nat.zero_add, ag2 76 k (by decide) (by omega), c76 k hk]
      have o3 : ∀ y, y ≠ 75 → rowc C2 75 76 0 1028 y = C2 y := fun y hy => rowc_n hy
      generalize rowc C2 75 76 0 1028 = C3 at *
      have g3 : ∀ y i, y ≠ 75 → y ≠ 76 → ¬ (y = 74 ∧ 8 ≤ i ∧ i ≤ 10) → C3 y i = C y i := fun y i h1 h2 h3 => by
        rw [o3 y h1, ag2 y i h1 h3, o1 y h2, ag0 y i h1 h3]
      have hs3 : seeMd C3 G := seeMd_ag (A := gcur G) (g3 74 3 (by decide) (by decide) (by omega)) (g3 74 5 (by decide) (by decide) (by omega)) (g3 74 7 (by decide) (by decide) (by omega)) (funext fun j => g3 77 j (by decide) (by decide) (by omega)) (funext fun j => g3 78 j (by decide) (by decide) (by omega)) (funext fun j => g3 79 j (by decide) (by decide) (by omega)) hs (seesM_congr hg.1 f75 hs.1)
      have lo3 : ∀ z, z < 74 → C3 z = C z := fun z hz => funext fun j => g3 z j (by omega) (by omega) (by omega)
      rw [o3 74 (by decide)]
      cases hB : addsA un rn (gcur G) l with
      | none =>
        rw [q6 hB]
        have E2 : oPointAll G (nI un) (nI rn) = (-2000004, G) := by
          rw [E]
          simp only [hB]
        exact ⟨fun q => absurd q (by decide), fun _ => lfM E2 rfl hs3 lo3⟩
      | some B =>
        have E2 : oPointAll G (nI un) (nI rn) = (nI l.length, grec G B) := by
          rw [E]
          simp only [hB]
        rw [(q5 B hB).2.1]
        refine ⟨fun _ => use_know hg hs3 fun C' hs' hf' => s_M_pointAll_65 ?_, fun q => absurd rfl q⟩
        have k7 : C' 74 7 = nI (gtxt G).1 := by rw [hf' 74 7 (by decide) (by omega)]; exact hs3.2.2.2.2.1
        have k79 : C' 79 = (gtxt G).2 := by
          rw [← hs3.2.2.2.2.2.1]
          exact funext fun j => hf' 79 j (by decide) (by omega)
        have hp2 : pall (gtxt G).1 (C' 79) 8 0 = (a, some l) := by rw [k79]; exact hp
        refine use_IP (R := fun e C'' => ∃ r', g1P C' p un rn (gcur G) l 0 r' C'' p ∧ r' = some (.int e)) (am_Call.mono (m_M_go1 (d := d) (C := C') (p := p) k7 h60 hg.1 hs'.1 hu1 hr1 hp2) (fun r' w' hw => ?_)) (fun e2 C4 he2 => s_M_pointAll_72 ?_)
        · obtain ⟨C'', p', q1, q2⟩ := hw
          obtain ⟨e, q3, q4, q5⟩ := q2
          subst q4
          exact ⟨C'', p', q1, e, q3, rfl, r', ⟨e, q3, rfl, q5⟩, q3⟩
        · obtain ⟨r', ⟨e, t3, -, ag4, t5, t6⟩, t7⟩ := he2
          obtain ⟨t8, t9, t10⟩ := t5 B hB
          have ee : e2 = nI l.length := by
            rw [t3] at t7
            cases t7
            rw [t8, Nat.zero_add]
          refine lfM E2 ee (seeMd_go (G := grec G (gcur G)) (A := B) ag4 hs' t10) (fun z hz => funext fun j => ?_)
          rw [ag4 z j (by omega) (by omega), hf' z j (by omega) (by omega), lo3 z hz]
end
