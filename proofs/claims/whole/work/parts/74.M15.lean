/-! the model: worst -/
def oX10 : Option (Nat × Nat) → Int32
  | some x => nI (10 * x.1 + x.2)
  | none => -2000005
def sx (G : aG) (N : Nat) (lim : Int32) (x : Nat) : Option (Nat × Nat) × Int32 := wT G N (x / 10) (min (x % 10) 6) (wR G N lim (x / 10))
def mo (s : Option (Nat × Nat) × Int32) : Int32 := if s.1 = none then 0 else s.2
theorem sx_hi {G : aG} {N : Nat} {lim : Int32} {x : Nat} (h : 6 ≤ x % 10) : sx G N lim (x + 1) = sx G N lim x := by
  unfold sx
  by_cases h9 : x % 10 = 9
  · rw [show (x + 1) / 10 = x / 10 + 1 by omega, show (x + 1) % 10 = 0 by omega, h9]
    rfl
  · rw [show (x + 1) / 10 = x / 10 by omega, show min ((x + 1) % 10) 6 = 6 by omega, show min (x % 10) 6 = 6 by omega]
theorem sx_lo {G : aG} {N : Nat} {lim : Int32} {x : Nat} (h : x % 10 < 6) : sx G N lim (x + 1) = if (sx G N lim x).2 < lws G N (x / 10) (x % 10) then (some (x / 10, x % 10), lws G N (x / 10) (x % 10)) else sx G N lim x := by
  unfold sx
  rw [show (x + 1) / 10 = x / 10 by omega, show min ((x + 1) % 10) 6 = x % 10 + 1 by omega, show min (x % 10) 6 = x % 10 by omega, wT_s]
theorem sx_inv {G : aG} {N : Nat} {lim : Int32} : ∀ x, ((sx G N lim x).1 = none → (sx G N lim x).2 = lim) ∧ lim ≤ (sx G N lim x).2
  | 0 => ⟨fun _ => rfl, Int32.le_refl _⟩
  | x + 1 => by
    obtain ⟨a, b⟩ := sx_inv (G := G) (N := N) (lim := lim) x
    by_cases h : x % 10 < 6
    · rw [sx_lo h]
      split
      · rename_i h2
        refine ⟨fun e => (by cases e), ?_⟩
        rw [Int32.le_iff_toInt_le] at b ⊢
        rw [Int32.lt_iff_toInt_lt] at h2
        show lim.toInt ≤ (lws G N (x / 10) (x % 10)).toInt
        omega
      · exact ⟨a, b⟩
    · rw [sx_hi (by omega)]
      exact ⟨a, b⟩
section
variable {d : Nat} {C : Nat → Nat → Int32} {p : Nat → Option Nat} {A : aS} {u : Nat}
theorem m_M_worst (hs : seesM (C 75) A) (hg : good A) (hu : u < A.1) : cI (d + 11) 127 [.ref 74, .int (nI u)] C p (oX10 (wrA A u)) C p := by
  have h4 := hg.1
  have h6 := (hg.2.2.2.1 u (by omega)).1
  have hlim : 0 ≤ A.2.1 := by
    rw [Int32.le_iff_toInt_le, i32_0]
    have := hg.2.1.1
    omega
  have loop : ∀ m x o5 o6 o7, x + m = 10 * aR A u → am_At (d + 11) 127 none (am_Ret (am_eI (oX10 (wrA A u)) C p)) 8 [some (.ref 74), some (.int (nI u)), some (.int (oX10 (sx (GA A u) (aR A u) A.2.1 x).1)), some (.int (mo (sx (GA A u) (aR A u) A.2.1 x))), some (.int (nI x)), o5, o6, o7] [] (am_w C p) (0, 0) := by
    intro m
    induction m with
    | zero =>
      intro x o5 o6 o7 hx
      apply s_M_worst_8
      refine use_I (m_M_of (b := 0)) (s_M_worst_21 ?_)
      rw [cl (by omega), Nat.add_zero, (hs.2.2.2.1 u hu).1, show (10 : Int32) = nI 10 from rfl, nI_mul]
      refine ⟨vpi (by omega) (by decide), fun _ => ret_I' ?_ rfl rfl, fun h => absurd ((le5 (by omega) (by omega)).mpr (by omega)) h⟩
      unfold sx wrA
      rw [show x / 10 = aR A u by omega, show x % 10 = 0 by omega]
      rfl
    | succ m ih =>
      intro x o5 o6 o7 hx
      have ih' := ih (x + 1)
      apply s_M_worst_8
      refine use_I (m_M_of (b := 0)) (s_M_worst_21 ?_)
      rw [cl (by omega), Nat.add_zero, (hs.2.2.2.1 u hu).1, show (10 : Int32) = nI 10 from rfl, nI_mul, nI_rem (by omega) (by decide) (by decide), nI_div (by omega) (by decide) (by decide)]
      refine ⟨vpi (by omega) (by decide), fun h => absurd ((le5 (by omega) (by omega)).mp h) (by omega), fun _ => ⟨by decide, by decide, use_I m_M_isTarget (s_M_worst_45 ?_)⟩⟩
      rw [nI_1, bI_eq]
      have hr : x / 10 < aR A u := by omega
      have hT : isT (nI (x % 10)) = decide (x % 10 < 6) := by
        rw [isT, nI_toI (by omega)]
        congr 1
        apply propext
        omega
      rw [hT, decide_eq_false_iff_not]
      refine ⟨fun h => ?_, fun h => ?_⟩
      · rw [sx_hi (by omega)] at ih'
        exact ih' _ _ _ (by omega)
      · rw [Classical.not_not] at h
        rw [sx_lo h] at ih'
        obtain ⟨i1, i2⟩ := sx_inv (G := GA A u) (N := aR A u) (lim := A.2.1) x
        refine use_I (m_M_isBad (d := d) hs hg hu hr) (s_M_worst_57 ?_)
        rw [nI_1, bI_eq]
        refine ⟨fun hb => ?_, fun hb => ?_⟩
        · rw [bad, decide_eq_false_iff_not, Classical.not_not] at hb
          rw [if_neg (Int32.not_lt.mpr (Int32.le_trans hb i2))] at ih'
          exact ih' _ _ _ (by omega)
        · have hus : us (GA A u) (x / 10) (x % 10) = true := by
            cases hq : us (GA A u) (x / 10) (x % 10) with
            | true => rfl
            | false => exact absurd (bad_no hg (by rw [hq]; decide)) hb
          have hl : lws (GA A u) (aR A u) (x / 10) (x % 10) = av (lef (GA A u) (aR A u) (x / 10) (x % 10)) := by rw [lws, if_pos hus]
          have hbd : A.2.1 < lws (GA A u) (aR A u) (x / 10) (x % 10) := by
            have := bf hb
            rw [bad, decide_eq_true_eq] at this
            exact Int32.not_le.mp this
          refine use_I (m_M_left (d := d + 1) hs hg hu hr hus) (s_M_worst_69 (use_I m_M_size (s_M_worst_72 ?_)))
          rw [← hl]
          have hmo : lws (GA A u) (aR A u) (x / 10) (x % 10) ≤ mo (sx (GA A u) (aR A u) A.2.1 x) ↔ ¬ (sx (GA A u) (aR A u) A.2.1 x).2 < lws (GA A u) (aR A u) (x / 10) (x % 10) := by
            unfold mo
            by_cases hn : (sx (GA A u) (aR A u) A.2.1 x).1 = none
            · rw [if_pos hn, i1 hn]
              refine ⟨fun hh => ?_, fun hh => absurd hbd hh⟩
              exfalso
              rw [Int32.le_iff_toInt_le] at hh hlim
              rw [Int32.lt_iff_toInt_lt] at hbd
              omega
            · rw [if_neg hn]
              exact Int32.not_lt.symm
          refine ⟨fun hh => s_M_worst_86 ⟨fun _ => ?_, fun h2 => absurd hh h2⟩, fun hh => s_M_worst_86 ⟨fun h2 => absurd h2 hh, fun _ => ?_⟩⟩
          · rw [if_neg (hmo.mp hh)] at ih'
            rw [nI_1]
            exact ih' _ _ _ (by omega)
          · rw [if_pos (Classical.not_not.mp (fun h2 => hh (hmo.mpr h2)))] at ih'
            have e : oX10 (some (x / 10, x % 10)) = nI x := by
              show nI (10 * (x / 10) + x % 10) = nI x
              rw [show 10 * (x / 10) + x % 10 = x by omega]
            rw [e] at ih'
            rw [nI_1]
            exact ih' _ _ _ (by omega)
  exact e_M_worst (s_M_worst_0 (loop (10 * aR A u) 0 _ _ _ (by omega)))
end
