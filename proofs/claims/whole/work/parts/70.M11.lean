/-! the model: setUp, begin -/
def zr (C : Nat → Nat → Int32) (o x : Nat) : Nat → Nat → Int32 := fun y i => if y = 75 ∧ o ≤ i ∧ i < o + x then 0 else C y i
theorem zr_0 {C : Nat → Nat → Int32} {o : Nat} : zr C o 0 = C := by
  funext y i
  simp only [zr]
  rw [if_neg (by omega)]
theorem zr_s {C : Nat → Nat → Int32} {o x : Nat} : am_u2 (zr C o x) 75 (o + x) 0 = zr C o (x + 1) := by
  funext y i
  simp only [am_u2_at, zr]
  by_cases hy : y = 75
  · subst hy
    by_cases hi : i = o + x
    · rw [if_pos ⟨rfl, hi⟩, if_pos (by omega)]
    · rw [if_neg (by omega)]
      by_cases h2 : o ≤ i ∧ i < o + x
      · rw [if_pos (by omega), if_pos (by omega)]
      · rw [if_neg (by omega), if_neg (by omega)]
  · rw [if_neg (by omega), if_neg (by omega), if_neg (by omega)]
theorem zr_n {C : Nat → Nat → Int32} {o x y : Nat} (h : y ≠ 75) : zr C o x y = C y := by
  funext i
  simp [zr, h]
theorem zr_out {C : Nat → Nat → Int32} {o x i : Nat} (h : i < o ∨ o + x ≤ i) : zr C o x 75 i = C 75 i := by
  simp only [zr]
  rw [if_neg (by omega)]
theorem zr_in {C : Nat → Nat → Int32} {o x i : Nat} (h : o ≤ i) (h2 : i < o + x) : zr C o x 75 i = 0 := by
  simp only [zr]
  rw [if_pos ⟨trivial, h, h2⟩]
theorem mrow_0 {s : Nat → Int32} {b : Nat} (h0 : s b = 0) (h1 : s (b + 1) = 0) : mrow s b f0 := by
  refine ⟨h0, Or.inl h1, ?_, fun _ => h1, fun _ => rfl⟩
  have hc : ∀ f : Nat → Int32, cut 0 f = fun _ => 0 := fun f => by
    funext k
    exact if_neg (Nat.not_lt_zero k)
  unfold fM
  rw [h0, h1, show ((0 : Int32).toNatClampNeg) = 0 from rfl, hc, hc, hc]
  rfl
section
variable {d : Nat} {C : Nat → Nat → Int32} {p : Nat → Option Nat} {G : aGl}
theorem M_setUp (hg : gG G) (hs : seeMd C G) : am_Call (d + 2) 116 [.ref 74] (am_w C p) (am_Ret (fPm C p (oSetUp G))) := by
  have h4 := hg.1.1
  apply e_M_setUp
  apply s_M_setUp_0
  rw [show ((0 : Int32).toNatClampNeg) = 0 from rfl, hs.1.1]
  refine ⟨vpi (n := 0) (by decide) (by decide), fun h => ?_, fun h => lfM0 hs ?_⟩
  · have h' : (gcur G).1 < 4 := by
      by_cases e : (gcur G).1 = 4
      · exact absurd (by rw [e]; rfl) h
      · omega
    refine use_know hg hs fun C' hs' hf => s_M_setUp_17 ?_
    have hN : C' 75 0 = nI (gcur G).1 := hs'.1.1
    rw [show ((0 : Int32).toNatClampNeg) = 0 from rfl, hN]
    refine ⟨vpi (n := 0) (by decide) (by decide), ?_⟩
    have loop : ∀ j x, x + j = 255 → am_At (d + 2) 116 none (am_Ret (fPm C p (oSetUp G))) 26 [some (.ref 74), some (.int (nI (gcur G).1)), some (.int (nI x))] [] (am_w (zr C' (8 + 255 * (gcur G).1) x) p) (0, 0) := by
      intro j
      induction j with
      | zero =>
        intro x hx
        have hx' : x = 255 := by omega
        subst hx'
        have e0 : zr C' (8 + 255 * (gcur G).1) 255 75 0 = nI (gcur G).1 := by rw [zr_out (by omega), hN]
        apply s_M_setUp_26
        rw [show ((0 : Int32).toNatClampNeg) = 0 from rfl, e0, nI_1]
        refine ⟨fun _ => ⟨vpi (n := 0) (by decide) (by decide), vpi (n := 0) (by decide) (by decide), ?_⟩, fun h => absurd (by decide) h⟩
        obtain ⟨q0, q1, q2, q3, q4⟩ := hs'.1
        have fr : ∀ k, k ≠ 0 → (k < 8 + 255 * (gcur G).1 ∨ 8 + 255 * (gcur G).1 + 255 ≤ k) → am_u2 (zr C' (8 + 255 * (gcur G).1) 255) 75 0 (nI ((gcur G).1 + 1)) 75 k = C' 75 k := fun k k1 k2 => by rw [am_u2_at, if_neg (by omega), zr_out k2]
        have fz : ∀ k, 8 + 255 * (gcur G).1 ≤ k → k < 8 + 255 * (gcur G).1 + 255 → am_u2 (zr C' (8 + 255 * (gcur G).1) 255) 75 0 (nI ((gcur G).1 + 1)) 75 k = 0 := fun k k1 k2 => by rw [am_u2_at, if_neg (by omega), zr_in k1 k2]
        refine lfR (A := upN (gcur G)) (e' := nI (gcur G).1) hs' hf (by rw [oSetUp, if_pos h']) rfl ⟨by rw [am_u2_at, if_pos ⟨rfl, rfl⟩]; rfl, by rw [fr 1 (by decide) (by omega)]; exact q1, fun t ht => by rw [fr _ (by omega) (by omega)]; exact q2 t ht, fun u hu => ?_, fun u r f hu hr hf2 => ?_⟩ (fun z hz => by rw [am_u2_ne hz, zr_n hz])
        · change u < (gcur G).1 + 1 at hu
          by_cases e : u = (gcur G).1
          · subst e
            rw [fz _ (by omega) (by omega), fz _ (by omega) (by omega), fz _ (by omega) (by omega)]
            obtain ⟨z1, z2, z3⟩ := hg.1.2.2.2.2.2.1 (gcur G).1 h' (Nat.le_refl _)
            refine ⟨?_, z2.symm, z3.symm⟩
            show 0 = nI (aR (gcur G) (gcur G).1)
            rw [z1]
            rfl
          · rw [fr _ (by omega) (by omega), fr _ (by omega) (by omega), fr _ (by omega) (by omega)]
            exact q3 u (by show u < (gcur G).1; omega)
        · change u < (gcur G).1 + 1 at hu
          have hr2 : r < aR (gcur G) u := hr
          by_cases e : u = (gcur G).1
          · subst e
            rw [(hg.1.2.2.2.2.2.1 (gcur G).1 h' (Nat.le_refl _)).1] at hr2
            omega
          · have h6 := (hg.1.2.2.2.1 u (by omega)).1
            refine mrow_congr (hg.1.2.2.2.2.1 _ (by unfold rwn; omega)).1 (fun k hk => fr _ ?_ (Or.inl ?_)) (q4 u r f (by show u < (gcur G).1; omega) hr hf2)
            · unfold fbs; omega
            · unfold fbs; omega
      | succ j ih =>
        intro x hx
        apply s_M_setUp_26
        refine ⟨fun h => absurd ((le5 (a := 255) (by omega) (by omega)).mp h) (by omega), fun _ => use_I (m_M_of (b := x)) (s_M_setUp_42 ?_)⟩
        rw [cl (by omega), nI_1, zr_s]
        exact ⟨vpi (by omega) (by decide), ih (x + 1) (by omega)⟩
    have h0 := loop 255 0 (by omega)
    rw [zr_0] at h0
    exact h0
  · have e : (gcur G).1 = 4 := nI_inj (b := 4) (by omega) (by decide) h
    rw [oSetUp, if_neg (by omega)]
end
