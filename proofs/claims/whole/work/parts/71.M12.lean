/-! the model: begin -/
section
variable {d : Nat} {C : Nat → Nat → Int32} {p : Nat → Option Nat} {G : aGl}
theorem M_begin {u : Int32} (hg : gG G) (hs : seeMd C G) : am_Call (d + 3) 117 [.ref 74, .int u] (am_w C p) (am_Ret (fPm C p (oBegin G u))) := by
  apply e_M_begin
  apply s_M_begin_0
  refine use_I (m_M_isSetUp hs.1 hg.1) (s_M_begin_5 ⟨fun h => ?_, fun h => lfM0 hs (by rw [oBegin, if_neg (by rw [bI_eq.mp h]; decide)])⟩)
  rw [bI_ne] at h
  obtain ⟨n, rfl, hn⟩ := hsA_ok h hg.1
  have h4 := hg.1.1
  have h6 := (hg.1.2.2.2.1 n (by omega)).1
  have E : oBegin G (nI n) = if aR (gcur G) n < 6 then (nI (aR (gcur G) n), grec G (upR (gcur G) n (aR (gcur G) n + 1))) else (-2000003, G) := by
    rw [oBegin, if_pos h, cn_nI (by omega)]
  refine use_I (m_M_of (b := 0)) (s_M_begin_20 ?_)
  rw [cl (by omega), Nat.add_zero, (hs.1.2.2.2.1 n hn).1]
  refine ⟨vpi (by omega) (by decide), fun h2 => ?_, fun h2 => lfM0 hs ?_⟩
  · have h' : aR (gcur G) n < 6 := by
      by_cases e : aR (gcur G) n = 6
      · exact absurd (by rw [e]; rfl) h2
      · omega
    rw [if_pos h'] at E
    refine use_know hg hs fun C' hs' hf => s_M_begin_35 ?_
    have hR : C' 75 (8 + 255 * n) = nI (aR (gcur G) n) := (hs'.1.2.2.2.1 n hn).1
    have hB : fbs n (aR (gcur G) n) 0 + 42 ≤ 1028 ∧ 8 + 255 * n + 3 ≤ fbs n (aR (gcur G) n) 0 := by unfold fbs; omega
    have loop : ∀ j x, x + j = 42 → am_At (d + 3) 117 none (am_Ret (fPm C p (oBegin G (nI n)))) 37 [some (.ref 74), some (.int (nI n)), some (.int (nI (aR (gcur G) n))), some (.int (nI x))] [] (am_w (zr C' (fbs n (aR (gcur G) n) 0) x) p) (0, 0) := by
      intro j
      induction j with
      | zero =>
        intro x hx
        have hx' : x = 42 := by omega
        subst hx'
        apply s_M_begin_37
        refine ⟨fun _ => use_I (m_M_of (b := 0)) (s_M_begin_72 ?_), fun h => absurd (by decide) h⟩
        have e0 : zr C' (fbs n (aR (gcur G) n) 0) 42 75 (8 + 255 * n) = nI (aR (gcur G) n) := by rw [zr_out (by omega), hR]
        rw [cl (by omega), Nat.add_zero, e0, nI_1]
        refine ⟨vpi (by omega) (by decide), vpi (by omega) (by decide), ?_⟩
        obtain ⟨q0, q1, q2, q3, q4⟩ := hs'.1
        have fr : ∀ k, k ≠ 8 + 255 * n → (k < fbs n (aR (gcur G) n) 0 ∨ fbs n (aR (gcur G) n) 0 + 42 ≤ k) → am_u2 (zr C' (fbs n (aR (gcur G) n) 0) 42) 75 (8 + 255 * n) (nI (aR (gcur G) n + 1)) 75 k = C' 75 k := fun k k1 k2 => by rw [am_u2_at, if_neg (by omega), zr_out k2]
        have fz : ∀ k, fbs n (aR (gcur G) n) 0 ≤ k → k < fbs n (aR (gcur G) n) 0 + 42 → am_u2 (zr C' (fbs n (aR (gcur G) n) 0) 42) 75 (8 + 255 * n) (nI (aR (gcur G) n + 1)) 75 k = 0 := fun k k1 k2 => by rw [am_u2_at, if_neg (by omega), zr_in k1 k2]
        refine lfR (A := upR (gcur G) n (aR (gcur G) n + 1)) (e' := nI (aR (gcur G) n)) hs' hf E rfl ⟨by rw [fr 0 (by omega) (by omega)]; exact q0, by rw [fr 1 (by omega) (by omega)]; exact q1, fun t ht => by rw [fr _ (by omega) (by omega)]; exact q2 t ht, fun v hv => ?_, fun v r f hv hr hf2 => ?_⟩ (fun z hz => by rw [am_u2_ne hz, zr_n hz])
        · obtain ⟨r0, r1, r2⟩ := q3 v hv
          have hv' : v < (gcur G).1 := hv
          have hout : ∀ j, j < 3 → (8 + 255 * v + j < fbs n (aR (gcur G) n) 0 ∨ fbs n (aR (gcur G) n) 0 + 42 ≤ 8 + 255 * v + j) := by
            intro j hj
            unfold fbs
            rcases Nat.lt_trichotomy v n with h | h | h
            · omega
            · omega
            · omega
          refine ⟨?_, ?_, ?_⟩
          · show _ = nI (if v = n then aR (gcur G) n + 1 else aR (gcur G) v)
            by_cases e : v = n
            · subst e
              rw [if_pos rfl, am_u2_at, if_pos ⟨rfl, rfl⟩]
            · rw [if_neg e, fr (8 + 255 * v) (by omega) (hout 0 (by decide))]
              exact r0
          · rw [fr _ (by omega) (hout 1 (by decide))]
            exact r1
          · rw [fr _ (by omega) (hout 2 (by decide))]
            exact r2
        · have hv' : v < (gcur G).1 := hv
          have hr' : r < if v = n then aR (gcur G) n + 1 else aR (gcur G) v := hr
          have h6v := (hg.1.2.2.2.1 v (by omega)).1
          show mrow _ _ (aF (gcur G) (rwn v r f))
          by_cases hnew : v = n ∧ r = aR (gcur G) n
          · obtain ⟨e1, e2⟩ := hnew
            subst e1
            subst e2
            rw [show aF (gcur G) (rwn v (aR (gcur G) v) f) = f0 from hg.1.2.2.2.2.2.2 v _ f (by omega) (by omega) hf2 (Nat.le_refl _)]
            have hb1 : fbs v (aR (gcur G) v) 0 ≤ fbs v (aR (gcur G) v) f ∧ fbs v (aR (gcur G) v) f + 1 < fbs v (aR (gcur G) v) 0 + 42 := by unfold fbs; omega
            exact mrow_0 (fz _ hb1.1 (by omega)) (fz _ (by omega) hb1.2)
          · have hr2 : r < aR (gcur G) v := by
              by_cases e : v = n
              · rw [if_pos e] at hr'
                subst e
                omega
              · rw [if_neg e] at hr'
                exact hr'
            refine mrow_congr (hg.1.2.2.2.2.1 _ (by unfold rwn; omega)).1 (fun k hk => fr _ ?_ ?_) (q4 v r f hv hr2 hf2)
            · exact fbs_ne (j := 0) (by omega) hf2 hk (by decide)
            · unfold fbs
              rcases Nat.lt_trichotomy v n with h | h | h
              · omega
              · subst h
                omega
              · omega
      | succ j ih =>
        intro x hx
        apply s_M_begin_37
        refine ⟨fun h => absurd ((le5 (a := 42) (by omega) (by omega)).mp h) (by omega), fun _ => use_I (m_M_faceAt (f := 0)) (s_M_begin_53 ?_)⟩
        rw [nI_add, cl (by omega), nI_1 x, zr_s]
        exact ⟨vpi (by omega) (by decide), ih (x + 1) (by omega)⟩
    have h0 := loop 42 0 (by omega)
    rw [zr_0] at h0
    exact h0
  · have e : aR (gcur G) n = 6 := nI_inj (b := 6) (by omega) (by decide) h2
    rw [E, if_neg (by omega)]
/-- a face changed -/
theorem seesM_face {s s' : Nat → Int32} {A : aS} {u r f : Nat} {g : aFace} (hg : good A) (hs : seesM s A) (hu : u < A.1) (hr : r < aR A u) (hf : f < 2) (h : ∀ k, (k < fbs u r f ∨ fbs u r f + 21 ≤ k) → s' k = s k) (hm : mrow s' (fbs u r f) g) : seesM s' (upF A (rwn u r f) g) := by
  obtain ⟨q0, q1, q2, q3, q4⟩ := hs
  have h4 := hg.1
  have h6 := (hg.2.2.2.1 u (by omega)).1
  have h11 : 11 ≤ fbs u r f := by unfold fbs; omega
  refine ⟨by rw [h 0 (by omega)]; exact q0, by rw [h 1 (by omega)]; exact q1, fun t ht => by rw [h _ (by omega)]; exact q2 t ht, fun v hv => ?_, fun v r' f' hv hr' hf' => ?_⟩
  · have hv' : v < A.1 := hv
    have hout : ∀ j, j < 3 → (8 + 255 * v + j < fbs u r f ∨ fbs u r f + 21 ≤ 8 + 255 * v + j) := by
      intro j hj
      unfold fbs
      rcases Nat.lt_trichotomy v u with h | h | h
      · omega
      · omega
      · omega
    obtain ⟨r0, r1, r2⟩ := q3 v hv
    rw [h (8 + 255 * v) (hout 0 (by decide)), h _ (hout 1 (by decide)), h _ (hout 2 (by decide))]
    exact ⟨r0, r1, r2⟩
  · have hv' : v < A.1 := hv
    have hr2 : r' < aR A v := hr'
    have h6v := (hg.2.2.2.1 v (by omega)).1
    show mrow s' _ (if rwn v r' f' = rwn u r f then g else aF A (rwn v r' f'))
    by_cases e : rwn v r' f' = rwn u r f
    · rw [if_pos e]
      have : v = u ∧ r' = r ∧ f' = f := by unfold rwn at e; omega
      obtain ⟨rfl, rfl, rfl⟩ := this
      exact hm
    · rw [if_neg e]
      have hne : ¬ (v = u ∧ r' = r ∧ f' = f) := fun hh => e (by rw [hh.1, hh.2.1, hh.2.2])
      refine mrow_congr (hg.2.2.2.2.1 _ (by unfold rwn; omega)).1 (fun k hk => h _ ?_) (q4 v r' f' hv hr2 hf')
      unfold fbs
      rcases Nat.lt_trichotomy v u with h | h | h
      · omega
      · subst h
        rcases Nat.lt_trichotomy r' r with h | h | h
        · omega
        · subst h
          omega
        · omega
      · omega
end
