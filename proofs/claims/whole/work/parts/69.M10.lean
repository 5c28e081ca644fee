theorem fbs_ne {v r g k n j : Nat} (hr : r < 6) (hg : g < 2) (hk : k < 21) (hj : j < 3) : fbs v r g + k ≠ 8 + 255 * n + j := by
  unfold fbs
  rcases Nat.lt_trichotomy v n with h | h | h
  · omega
  · omega
  · omega
section
variable {d : Nat} {C : Nat → Nat → Int32} {p : Nat → Option Nat} {G : aGl}
theorem M_restore (hg : gG G) (hs : seeMd C G) : am_Call (d + 2) 140 [.ref 74] (am_w C p) (am_Ret (fPm C p (oRestore G))) := by
  apply e_M_restore
  apply s_M_restore_0
  rw [hs.2.1]
  refine ⟨fun h => ?_, fun h => lfM0 hs (by rw [oRestore, if_pos (bI_eq.mp h)])⟩
  rw [bI_ne] at h
  refine use_know hg hs fun C' hs' hf => s_M_restore_14 ?_
  have hsn := hs'.2.2.1 h
  have loop : ∀ j x, x + j = 1028 → am_At (d + 2) 140 none (am_Ret (fPm C p (oRestore G))) 16 [some (.ref 74), some (.int (nI x))] [] (am_w (rowc C' 75 78 0 x) p) (0, 0) := by
    intro j
    induction j with
    | zero =>
      intro x hx
      have hx' : x = 1028 := by omega
      subst hx'
      apply s_M_restore_16
      have hA : seesM (rowc C' 75 78 0 1028 75) (gsnp G) := seesM_congr (hg.2.1 h) (fun k hk => by rw [rowc_a hk, Nat.zero_add]) hsn
      exact ⟨fun _ => ⟨vpi (n := 0) (by decide) (by decide), lfR (A := gsnp G) (e' := nI (gsnp G).1) hs' hf (by rw [oRestore, if_neg (by rw [h]; decide)]) hA.1 hA (fun x hx => rowc_n hx)⟩, fun h => absurd (by decide) h⟩
    | succ j ih =>
      intro x hx
      apply s_M_restore_16
      rw [cl (by omega), nI_1]
      have hr := rowc_s (C := C') (a := 75) (b := 78) (o := 0) (x := x) (by decide)
      rw [Nat.zero_add] at hr
      rw [hr]
      exact ⟨fun h => absurd ((le5 (a := 1028) (by omega) (by omega)).mp h) (by omega), fun _ => ⟨vpi (by omega) (by decide), vpi (by omega) (by decide), ih (x + 1) (by omega)⟩⟩
  have h0 := loop 1028 0 (by omega)
  rw [rowc_0] at h0
  exact h0
theorem M_undo (hg : gG G) (hs : seeMd C G) : am_Call (d + 1) 138 [.ref 74] (am_w C p) (am_Ret (fPm C p (oUndo G))) := by
  have h4 := hg.2.2.1
  apply e_M_undo
  apply s_M_undo_0
  have hs0 := hs
  obtain ⟨a, b, c, e, f, g, i⟩ := hs
  rw [e]
  refine ⟨fun h => ?_, fun h => lfM0 hs0 (by rw [oUndo, if_pos (nI_inj (b := 0) (by omega) (by decide) h)])⟩
  have h' : (ghis G).1 ≠ 0 := fun e => h (by rw [e]; rfl)
  obtain ⟨n, hn⟩ : ∃ n, (ghis G).1 = n + 1 := ⟨(ghis G).1 - 1, by omega⟩
  have E : oUndo G = (nI n, ((ghis G).2 n, gkep G, gsnp G, (n, (ghis G).2), gtxt G)) := by rw [oUndo, if_neg h', hn, Nat.add_sub_cancel]
  rw [hn, nI_pred]
  have loop : ∀ j x, x + j = 1028 → am_At (d + 1) 138 none (am_Ret (fPm C p (oUndo G))) 22 [some (.ref 74), some (.int (nI x))] [] (am_w (rowc (am_u2 C 74 3 (nI n)) 75 77 (1028 * n) x) p) (0, 0) := by
    intro j
    induction j with
    | zero =>
      intro x hx
      have hx' : x = 1028 := by omega
      subst hx'
      apply s_M_undo_22
      have fr : ∀ y, y ≠ 74 → y ≠ 75 → rowc (am_u2 C 74 3 (nI n)) 75 77 (1028 * n) 1028 y = C y := fun y h1 h2 => by rw [rowc_n h2, am_u2_ne h1]
      have fr2 : ∀ k, k ≠ 3 → rowc (am_u2 C 74 3 (nI n)) 75 77 (1028 * n) 1028 74 k = C 74 k := fun k h1 => by rw [rowc_n (by decide), am_u2_at, if_neg (by omega)]
      have e3 : rowc (am_u2 C 74 3 (nI n)) 75 77 (1028 * n) 1028 74 3 = nI n := by rw [rowc_n (by decide), am_u2_at, if_pos ⟨rfl, rfl⟩]
      rw [e3]
      refine ⟨fun _ => lfM E rfl ⟨?_, by rw [fr2 5 (by decide)]; exact b, fun hk => by rw [fr 78 (by decide) (by decide)]; exact c hk, e3, by rw [fr2 7 (by decide)]; exact f, by rw [fr 79 (by decide) (by decide)]; exact g, fun j hj => by rw [fr 77 (by decide) (by decide)]; exact i j (by change j < n at hj; omega)⟩ (fun z hz => fr z (by omega) (by omega)), fun h => absurd (by decide) h⟩
      refine seesM_congr (hg.2.2.2.1 n (by omega)) (fun k hk => ?_) (i n (by omega))
      rw [rowc_a hk, am_u2_ne (by decide)]
    | succ j ih =>
      intro x hx
      apply s_M_undo_22
      have e3 : rowc (am_u2 C 74 3 (nI n)) 75 77 (1028 * n) x 74 3 = nI n := by rw [rowc_n (by decide), am_u2_at, if_pos ⟨rfl, rfl⟩]
      rw [e3, show (1028 : Int32) = nI 1028 from rfl, nI_mul, nI_add, nI_1 x, cl (n := x) (by omega), cl (n := 1028 * n + x) (by omega), rowc_s (by decide)]
      exact ⟨fun h => absurd ((le5 (a := 1028) (by omega) (by omega)).mp h) (by omega), fun _ => ⟨vpi (by omega) (by decide), vpi (by omega) (by decide), ih (x + 1) (by omega)⟩⟩
  have h0 := loop 1028 0 (by omega)
  rw [rowc_0] at h0
  exact h0
theorem inq {x hi : Int32} {n : Int} (h : hi.toInt = n) : (¬ x < 0 ∧ ¬ hi < x) ↔ rb 0 n x = true := in3 h
theorem c_23 : (23 : Int32).toInt = 23 := by decide
theorem M_centre {u x y : Int32} (hg : gG G) (hs : seeMd C G) : am_Call (d + 3) 130 [.ref 74, .int u, .int x, .int y] (am_w C p) (am_Ret (fPm C p (oCentre G u x y))) := by
  apply e_M_centre
  apply s_M_centre_0
  refine use_I (m_M_isSetUp hs.1 hg.1) (s_M_centre_5 ⟨fun h1 => use_I (m_M_in (inq c_99)) (s_M_centre_18 ?_), fun h => lfM0 hs (by rw [oCentre, if_pos (bI_eq.mp h)])⟩)
  rw [bI_ne] at h1
  refine ⟨fun h => lfM0 hs (by rw [oCentre, if_neg (by rw [h1]; decide), if_pos (Or.inl (bI_eq.mp h))]), fun h2 => use_I (m_M_in (inq c_23)) (s_M_centre_28 ⟨fun h3 => ?_, fun h => lfM0 hs (by rw [oCentre, if_neg (by rw [h1]; decide), if_pos (Or.inr (bI_eq.mp h))])⟩)⟩
  rw [bI_ne] at h2 h3
  obtain ⟨n, rfl, hn⟩ := hsA_ok h1 hg.1
  have h4 := hg.1.1
  obtain ⟨o0, o1, o2⟩ := hs.1.2.2.2.1 n hn
  have E : oCentre G (nI n) x y = if aO (gcur G) n = x ∧ aQ (gcur G) n = y then (-2000005, G) else (aO (gcur G) n * 100 + aQ (gcur G) n, grec G (upC (gcur G) n x y)) := by
    rw [oCentre, if_neg (by rw [h1]; decide), if_neg (by rw [h2, h3]; decide), cn_nI (by omega)]
  have fin : ¬ (aO (gcur G) n = x ∧ aQ (gcur G) n = y) → am_Cv (d + 2) 92 [.ref 74] (am_w C p) (fun w1 => am_At (d + 2 + 1) 130 none (am_Ret (fPm C p (oCentre G (nI n) x y))) 69 [some (.ref 74), some (.int (nI n)), some (.int x), some (.int y)] [] w1 (0, 0)) := by
    intro hne
    refine use_know hg hs fun C' hs' hf => s_M_centre_69 (use_I (m_M_of (b := 1)) (s_M_centre_77 (use_I (m_M_puts (by omega)) (s_M_centre_81 (use_I (m_M_of (b := 2)) (s_M_centre_88 (use_I (m_M_puts (by omega)) (s_M_centre_92 ?_)))))))) 
    obtain ⟨p0, p1, p2⟩ := hs'.1.2.2.2.1 n hn
    refine lfR (A := upC (gcur G) n x y) (e' := aO (gcur G) n * 100 + aQ (gcur G) n) hs' hf (by rw [E, if_neg hne]) ?_ ?_ (fun z hz => by rw [am_u2_ne hz, am_u2_ne hz])
    · rw [am_u2_at, if_neg (by omega), p1, p2, Int32.mul_comm]
      rfl
    · obtain ⟨q0, q1, q2, q3, q4⟩ := hs'.1
      have fr : ∀ k, k ≠ 8 + 255 * n + 1 → k ≠ 8 + 255 * n + 2 → am_u2 (am_u2 C' 75 (8 + 255 * n + 1) x) 75 (8 + 255 * n + 2) y 75 k = C' 75 k := fun k k1 k2 => by rw [am_u2_at, if_neg (by omega), am_u2_at, if_neg (by omega)]
      refine ⟨by rw [fr 0 (by omega) (by omega)]; exact q0, by rw [fr 1 (by omega) (by omega)]; exact q1, fun t ht => by rw [fr _ (by omega) (by omega)]; exact q2 t ht, fun v hv => ?_, fun v r g hv hr hg2 => ?_⟩
      · obtain ⟨r0, r1, r2⟩ := q3 v hv
        rw [fr (8 + 255 * v) (by omega) (by omega)]
        refine ⟨r0, ?_, ?_⟩
        · show _ = if v = n then x else aO (gcur G) v
          by_cases e : v = n
          · subst e
            rw [if_pos rfl, am_u2_at, if_neg (by omega), am_u2_at, if_pos ⟨rfl, rfl⟩]
          · rw [if_neg e, fr _ (by omega) (by omega)]
            exact r1
        · show _ = if v = n then y else aQ (gcur G) v
          by_cases e : v = n
          · subst e
            rw [if_pos rfl, am_u2_at, if_pos ⟨rfl, rfl⟩]
          · rw [if_neg e, fr _ (by omega) (by omega)]
            exact r2
      · have h5 : v < (gcur G).1 := hv
        have h7 : r < aR (gcur G) v := hr
        have h6 := (hg.1.2.2.2.1 v (by omega)).1
        refine mrow_congr (hg.1.2.2.2.2.1 _ (by unfold rwn; omega)).1 (fun k hk => fr _ ?_ ?_) (q4 v r g hv hr hg2)
        · exact fbs_ne (j := 1) (by omega) hg2 hk (by decide)
        · exact fbs_ne (j := 2) (by omega) hg2 hk (by decide)
  refine use_I (m_M_of (b := 1)) (s_M_centre_43 ?_)
  rw [cl (by omega), o1]
  refine ⟨vpi (by omega) (by decide), fun h => fin (fun hh => h hh.1), fun h => use_I (m_M_of (b := 2)) (s_M_centre_57 ?_)⟩
  rw [cl (by omega), o2]
  exact ⟨vpi (by omega) (by decide), fun h2 => fin (fun hh => h2 hh.2), fun h2 => lfM0 hs (by rw [E, if_pos ⟨h, h2⟩])⟩
end
