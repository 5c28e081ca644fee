variable {zN : Nat}
theorem why_used {f g : aFace} {t : Int32} (h : why f g t = 0) : own f g t = 0 ∧ own f g 0 = 0 := by
  unfold why at h
  by_cases h1 : own f g t ≠ 0 ∨ t = 0
  · rw [if_pos h1] at h
    rcases h1 with h1 | h1
    · exact absurd h h1
    · exact ⟨h, by rw [← h1]; exact h⟩
  · rw [if_neg h1] at h
    by_cases h2 : own f g 0 = 0
    · refine ⟨?_, h2⟩
      apply Classical.byContradiction
      intro q
      exact h1 (Or.inl q)
    · rw [if_neg h2] at h
      cases h
theorem own_places {f g : aFace} {t : Int32} (h : own f g t = 0) : ∃ a b, plc f t = some a ∧ plc g t = some b := by
  unfold own at h
  split at h
  · cases h
  · cases h
  · rename_i a b ha hb
    exact ⟨a, b, ha, hb⟩
theorem nI0 : nI 0 = 0 := rfl
section
variable {d : Nat} {C : Nat → Nat → Int32} {p : Nat → Option Nat}
def rrP (C : Nat → Nat → Int32) (G : aG) (r t : Nat) (D : Nat → Nat → Int32) : Prop := agR D C ∧ D 68 = C 68 ∧ D 69 r = bs (us G r) t ∧ (∀ t', t' < t → us G r t' = true → D 70 (r * 6 + t') = reR G r t' ∧ D 71 (r * 6 + t') = sgR G r t') ∧ ∀ r', r' ≠ r → D 69 r' = C 69 r' ∧ ∀ t', t' < 6 → D 70 (r' * 6 + t') = C 70 (r' * 6 + t') ∧ D 71 (r' * 6 + t') = C 71 (r' * 6 + t')
theorem m_R_reckonRound {u r : Nat} (hr : r < 6) (hu : u < 4) (hc : ∀ f, f < 2 → cok 1 C ((u * 6 + r) * 2 + f)) : am_Call (d + 4) 15 [.ref 68, .ref 1, .int (nI u), .int (nI r)] (am_w zN C p) (am_Ret zN fun e C' p' => e = none ∧ p' = p ∧ rrP C (Gc C u) r 6 C') := by
  have hc0 := hc 0 (by decide)
  have hc1 := hc 1 (by decide)
  rw [Nat.add_zero] at hc0
  have hrow : (u * 6 + r) * 2 + 1 < 48 := by omega
  have loop : ∀ m t (D : Nat → Nat → Int32) (x6 : Int32) o8 o9 o10 o11, t + m = 6 → rrP C (Gc C u) r t D → (0 < t → own (Gc C u r).1 (Gc C u r).2 0 = 0 → x6 = mea (Gc C u r).1 (Gc C u r).2 0) →
      am_At (d + 4) 15 none (am_Ret zN fun e C' p' => e = none ∧ p' = p ∧ rrP C (Gc C u) r 6 C') 29 [some (.ref 68), some (.ref 1), some (.int (nI u)), some (.int (nI r)), some (.int (nI ((u * 6 + r) * 2))), some (.int (nI ((u * 6 + r) * 2 + 1))), some (.int x6), some (.int (nI t)), o8, o9, o10, o11] [] (am_w zN D p) (0, 0) := by
    intro m
    induction m with
    | zero =>
      intro t D x6 o8 o9 o10 o11 ht hD hx
      have ht6 : t = 6 := by omega
      subst ht6
      apply s_R_reckonRound_29
      exact ⟨fun _ => ⟨D, p, rfl, rfl, rfl, hD⟩, fun h => absurd (by decide) h⟩
    | succ m ih =>
      intro t D x6 o8 o9 o10 o11 ht hD hx
      obtain ⟨d1, d2, d3, d4, d5⟩ := hD
      have e0 : fS 1 D ((u * 6 + r) * 2) = fS 1 C ((u * 6 + r) * 2) := fS_agR d1 (by decide) _
      have e1 : fS 1 D ((u * 6 + r) * 2 + 1) = fS 1 C ((u * 6 + r) * 2 + 1) := fS_agR d1 (by decide) _
      have k0 := cok_agR d1 hc0
      have k1 := cok_agR d1 hc1
      apply s_R_reckonRound_29
      refine ⟨fun h => ?_, fun _ => use_I (m_S_whyNotUsed hrow k0 k1) ?_⟩
      · have := (le5 (a := 6) (b := t) (by decide) (by omega)).mp h
        omega
      rw [e0, e1]
      apply s_R_reckonRound_44
      have hw5 : why (fS 1 C ((u * 6 + r) * 2)) (fS 1 C ((u * 6 + r) * 2 + 1)) (nI t) < 5000 := by
        unfold why own
        repeat' split
        all_goals decide
      have h0 : nI (why (fS 1 C ((u * 6 + r) * 2)) (fS 1 C ((u * 6 + r) * 2 + 1)) (nI t)) = 0 ↔ why (fS 1 C ((u * 6 + r) * 2)) (fS 1 C ((u * 6 + r) * 2 + 1)) (nI t) = 0 := eq5 (b := 0) hw5 (by decide)
      rw [h0]
      have hus : us (Gc C u) r t = decide (why (fS 1 C ((u * 6 + r) * 2)) (fS 1 C ((u * 6 + r) * 2 + 1)) (nI t) = 0) := rfl
      refine ⟨fun hy => ?_, fun hy => ?_⟩
      · have hus1 : us (Gc C u) r t = true := by rw [hus]; exact decide_eq_true hy
        obtain ⟨o1, o2⟩ := why_used hy
        obtain ⟨a, b, pa, pb⟩ := own_places o1
        have ca : cot (fS 1 C ((u * 6 + r) * 2)) (nI t) = cor (fS 1 C ((u * 6 + r) * 2)) a := by rw [cot, pa]
        have cb : cot (fS 1 C ((u * 6 + r) * 2 + 1)) (nI t) = cor (fS 1 C ((u * 6 + r) * 2 + 1)) b := by rw [cot, pb]
        refine use_I (m_S_placeOf (by omega) k0) ?_
        rw [e0, pa]
        apply s_R_reckonRound_61
        refine use_I (m_S_corrected (k := a) (by omega) k0 (by rw [e0]; exact (plc_lt pa).1)) ?_
        rw [e0, ← ca]
        apply s_R_reckonRound_64
        refine use_I (m_S_placeOf hrow k1) ?_
        rw [e1, pb]
        apply s_R_reckonRound_77
        refine use_I (m_S_corrected (k := b) hrow k1 (by rw [e1]; exact (plc_lt pb).1)) ?_
        rw [e1, ← cb]
        apply s_R_reckonRound_80
        refine use_I m_F_nearZero ?_
        apply s_R_reckonRound_93
        refine use_I (m_J_floorDiv (by decide)) ?_
        have key : ∀ y6, y6 = mea (fS 1 C ((u * 6 + r) * 2)) (fS 1 C ((u * 6 + r) * 2 + 1)) 0 → ∀ o8 o9,
            am_At (d + 4) 15 none (am_Ret zN fun e C' p' => e = none ∧ p' = p ∧ rrP C (Gc C u) r 6 C') 115 [some (.ref 68), some (.ref 1), some (.int (nI u)), some (.int (nI r)), some (.int (nI ((u * 6 + r) * 2))), some (.int (nI ((u * 6 + r) * 2 + 1))), some (.int y6), some (.int (nI t)), some (.int o8), some (.int o9), some (.int (apt (fS 1 C ((u * 6 + r) * 2)) (fS 1 C ((u * 6 + r) * 2 + 1)) (nI t))), some (.int (mea (fS 1 C ((u * 6 + r) * 2)) (fS 1 C ((u * 6 + r) * 2 + 1)) (nI t)))] [] (am_w zN D p) (0, 0) := by
          intro y6 hy6 o8 o9
          apply s_R_reckonRound_115
          rw [cl (n := r) (by omega), ix6, d3]
          refine ⟨vpi hr (by decide), vpi hr (by decide), use_I (m_J_floorDiv (by decide)) ?_⟩
          apply s_R_reckonRound_146
          rw [cl (n := r * 6 + t) (by omega), ix6]
          refine ⟨vpi (by omega) (by decide), use_I m_J_floorMod ?_⟩
          apply s_R_reckonRound_168
          rw [cl (n := r * 6 + t) (by omega), nI_1]
          refine ⟨vpi (by omega) (by decide), ih (t + 1) _ _ _ _ _ _ (by omega) ⟨?_, ?_, ?_, ?_, ?_⟩ (fun _ _ => hy6)⟩
          · exact (agR_u (by decide)).tr ((agR_u (by decide)).tr ((agR_u (by decide)).tr d1))
          · rw [am_u2_ne (by decide), am_u2_ne (by decide), am_u2_ne (by decide), d2]
          · rw [am_u2_ne (by decide), am_u2_ne (by decide), am_u2_at, if_pos ⟨rfl, rfl⟩, bs, if_pos hus1]
          · intro t' ht' hu'
            by_cases e : t' = t
            · subst e
              simp only [am_u2_at]
              refine ⟨?_, ?_⟩
              · rw [if_pos (by simp), hy6]
                rfl
              · rw [if_neg (by simp), if_pos (by simp)]
                rfl
            · obtain ⟨q1, q2⟩ := d4 t' (by omega) hu'
              simp only [am_u2_at]
              rw [if_neg (by omega), if_neg (by omega), if_neg (by omega), if_neg (by omega), if_neg (by omega), if_neg (by omega)]
              exact ⟨q1, q2⟩
          · intro r' hr'
            obtain ⟨q1, q2⟩ := d5 r' hr'
            refine ⟨by simp only [am_u2_at]; rw [if_neg (by omega), if_neg (by omega), if_neg (by omega)]; exact q1, fun t' ht' => ?_⟩
            obtain ⟨z1, z2⟩ := q2 t' ht'
            simp only [am_u2_at]
            rw [if_neg (by omega), if_neg (by omega), if_neg (by omega), if_neg (by omega), if_neg (by omega), if_neg (by omega)]
            exact ⟨z1, z2⟩
        apply s_R_reckonRound_103
        have ht0 : nI t = 0 ↔ t = 0 := eq5 (b := 0) (by omega) (by decide)
        rw [ht0]
        refine ⟨fun hz => key x6 (hx (by omega) o2) _ _, fun hz => ?_⟩
        have := key (mea (fS 1 C ((u * 6 + r) * 2)) (fS 1 C ((u * 6 + r) * 2 + 1)) (nI t)) (by rw [hz]; rfl) (cot (fS 1 C ((u * 6 + r) * 2)) (nI t)) (cot (fS 1 C ((u * 6 + r) * 2 + 1)) (nI t))
        exact this
      · have hus0 : us (Gc C u) r t = false := by rw [hus]; exact decide_eq_false hy
        rw [nI_1]
        refine ih (t + 1) D x6 _ _ _ _ (by omega) ⟨d1, d2, ?_, ?_, d5⟩ ?_
        · rw [d3, bs, hus0]
          rfl
        · intro t' ht' hu'
          by_cases e : t' = t
          · rw [e, hus0] at hu'
            cases hu'
          · exact d4 t' (by omega) hu'
        · intro _ ho
          by_cases hz : t = 0
          · exfalso
            subst hz
            apply hy
            have ho' : own (fS 1 C ((u * 6 + r) * 2)) (fS 1 C ((u * 6 + r) * 2 + 1)) 0 = 0 := ho
            rw [nI0, why, if_pos (Or.inr rfl)]
            exact ho'
          · exact hx (by omega) ho
  apply e_R_reckonRound
  apply s_R_reckonRound_0
  refine use_I (m_F_rowOf (f := 0)) ?_
  apply s_R_reckonRound_6
  refine use_I (m_F_rowOf (f := 1)) ?_
  apply s_R_reckonRound_14
  rw [cl (n := r) (by omega)]
  refine ⟨vpi hr (by decide), loop 6 0 _ 0 none none none none rfl ⟨agR_u (by decide), am_u2_ne (by decide), ?_, fun t' ht' => by omega, fun r' hr' => ⟨by rw [am_u2_at, if_neg (by omega)], fun t' _ => ⟨by rw [am_u2_ne (by decide)], by rw [am_u2_ne (by decide)]⟩⟩⟩ (fun h => by omega)⟩
  rw [am_u2_at, if_pos ⟨rfl, rfl⟩]
  rfl
/-- all faces of a set-up -/
def coku (C : Nat → Nat → Int32) (u N : Nat) : Prop := ∀ r f, r < N → f < 2 → cok 1 C ((u * 6 + r) * 2 + f)
theorem m_R_reckon {u N : Nat} (hu : u < 4) (hN : C 2 u = nI N) (h6 : N ≤ 6) (hc : coku C u N) : am_Call (d + 5) 14 [.ref 68, .ref 1, .int (nI u)] (am_w zN C p) (am_Ret zN fun e C' p' => e = none ∧ p' = p ∧ agR C' C ∧ rk (Gc C u) N C') := by
  have loop2 : ∀ m t (D : Nat → Nat → Int32), t + m = 6 → agR D C → rk1 (Gc C u) N D → (∀ t', t' < t → D 73 t' = oD (-1) (dirO (Gc C u) N t')) → (∀ r t', r < N → t' < t → us (Gc C u) r t' = true → D 72 (r * 6 + t') = lef (Gc C u) N r t') →
      am_At (d + 5) 14 none (am_Ret zN fun e C' p' => e = none ∧ p' = p ∧ agR C' C ∧ rk (Gc C u) N C') 35 [some (.ref 68), some (.ref 1), some (.int (nI u)), some (.int (nI t))] [] (am_w zN D p) (0, 0) := by
    intro m
    induction m with
    | zero =>
      intro t D ht h1 h2 h3 h4
      have ht6 : t = 6 := by omega
      subst ht6
      apply s_R_reckon_35
      exact ⟨fun _ => ⟨D, p, rfl, rfl, rfl, h1, h2, h3, h4⟩, fun h => absurd (by decide) h⟩
    | succ m ih =>
      intro t D ht h1 h2 h3 h4
      apply s_R_reckon_35
      refine ⟨fun h => ?_, fun _ => use_VP (m_R_reckonDirection (G := Gc C u) (N := N) (by omega) h2) ?_⟩
      · have := (le5 (a := 6) (b := t) (by decide) (by omega)).mp h
        omega
      rintro C' ⟨a1, a2, a3, a4, a5⟩
      apply s_R_reckon_46
      rw [nI_1]
      obtain ⟨k1, k2, k3, k4⟩ := h2
      refine ih (t + 1) C' (by omega) (fun x hx => by rw [a1 x (by omega) (by omega)]; exact h1 x hx) ⟨?_, k2, ?_, ?_⟩ ?_ ?_
      · rw [a1 68 (by decide) (by decide)]; exact k1
      · intro r hr
        rw [a1 69 (by decide) (by decide)]; exact k3 r hr
      · intro r t' hr ht' hu'
        rw [a1 70 (by decide) (by decide), a1 71 (by decide) (by decide)]; exact k4 r t' hr ht' hu'
      · intro t' ht'
        by_cases e : t' = t
        · rw [e]; exact a2
        · rw [a3 t' e]; exact h3 t' (by omega)
      · intro r t' hr ht' hu'
        by_cases e : t' = t
        · rw [e] at hu' ⊢; exact a4 r hr hu'
        · rw [a5 r t' (by omega) e]; exact h4 r t' hr (by omega) hu'
  have loop1 : ∀ m r (D : Nat → Nat → Int32), r + m = N → agR D C → D 68 0 = nI N → (∀ r', r' < r → D 69 r' = bs (us (Gc C u) r') 6) → (∀ r' t, r' < r → t < 6 → us (Gc C u) r' t = true → D 70 (r' * 6 + t) = reR (Gc C u) r' t ∧ D 71 (r' * 6 + t) = sgR (Gc C u) r' t) →
      am_At (d + 5) 14 none (am_Ret zN fun e C' p' => e = none ∧ p' = p ∧ agR C' C ∧ rk (Gc C u) N C') 12 [some (.ref 68), some (.ref 1), some (.int (nI u)), some (.int (nI r))] [] (am_w zN D p) (0, 0) := by
    intro m
    induction m with
    | zero =>
      intro r D hr h1 h2 h3 h4
      have hrN : r = N := by omega
      subst hrN
      apply s_R_reckon_12
      rw [h2, le5 (by omega) (by omega)]
      exact ⟨fun _ => loop2 6 0 D rfl h1 ⟨h2, h6, h3, h4⟩ (fun t' ht' => by omega) (fun r' t' _ ht' => by omega), fun h => absurd (by omega) h⟩
    | succ m ih =>
      intro r D hr h1 h2 h3 h4
      apply s_R_reckon_12
      rw [h2, le5 (by omega) (by omega)]
      refine ⟨fun h => absurd h (by omega), fun _ => use_VP (m_R_reckonRound (r := r) (by omega) hu (fun f hf => cok_agR h1 (hc r f (by omega) hf))) ?_⟩
      rintro C' ⟨a1, a2, a3, a4, a5⟩
      rw [Gc_agR h1 u] at a3 a4
      apply s_R_reckon_27
      rw [nI_1]
      refine ih (r + 1) C' (by omega) (a1.tr h1) (by rw [a2, h2]) ?_ ?_
      · intro r' hr'
        by_cases e : r' = r
        · rw [e]; exact a3
        · rw [(a5 r' e).1]; exact h3 r' (by omega)
      · intro r' t hr' ht hu'
        by_cases e : r' = r
        · rw [e] at hu' ⊢; exact a4 t ht hu'
        · rw [((a5 r' e).2 t ht).1, ((a5 r' e).2 t ht).2]; exact h4 r' t (by omega) ht hu'
  apply e_R_reckon
  apply s_R_reckon_0
  rw [cl (n := u) (by omega), hN]
  exact ⟨vpi hu (by decide), loop1 N 0 _ (by omega) (agR_u (by decide)) (by rw [am_u2_at, if_pos ⟨rfl, rfl⟩]) (fun r' hr' => by omega) (fun r' t hr' => by omega)⟩
end
