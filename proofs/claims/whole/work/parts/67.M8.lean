/-! the model: what it holds; know -/
theorem mrow_congr {s s' : Nat → Int32} {b : Nat} {f : aFace} (h6 : f.1 ≤ 6) (h : ∀ k, k < 21 → s' (b + k) = s (b + k)) (hm : mrow s b f) : mrow s' b f := by
  obtain ⟨a, b1, c, e⟩ := hm
  have h0 := h 0 (by decide)
  rw [Nat.add_zero] at h0
  have h1 := h 1 (by decide)
  have h2 := h 2 (by decide)
  have hn : (s b).toNatClampNeg ≤ 6 := by rw [a, cl (by omega)]; exact h6
  refine ⟨by rw [h0]; exact a, by rw [h1]; exact b1, ?_, by rw [h1]; exact e⟩
  rw [← c]
  unfold fM
  rw [h0, h1, h2]
  rw [cut_congr (g := fun k => s (b + 3 + 3 * k)) (fun k hk => ?_), cut_congr (f := fun k => s' (b + 4 + 3 * k)) (g := fun k => s (b + 4 + 3 * k)) (fun k hk => ?_), cut_congr (f := fun k => s' (b + 5 + 3 * k)) (g := fun k => s (b + 5 + 3 * k)) (fun k hk => ?_)]
  · have := h (5 + 3 * k) (by omega)
    rw [show b + (5 + 3 * k) = b + 5 + 3 * k by omega] at this
    exact this
  · have := h (4 + 3 * k) (by omega)
    rw [show b + (4 + 3 * k) = b + 4 + 3 * k by omega] at this
    exact this
  · have := h (3 + 3 * k) (by omega)
    rw [show b + (3 + 3 * k) = b + 3 + 3 * k by omega] at this
    exact this
theorem seesM_congr {s s' : Nat → Int32} {A : aS} (hg : good A) (h : ∀ k, k < 1028 → s' k = s k) (hs : seesM s A) : seesM s' A := by
  obtain ⟨a, b, c, e, f⟩ := hs
  have h4 := hg.1
  refine ⟨by rw [h 0 (by decide)]; exact a, by rw [h 1 (by decide)]; exact b, fun t ht => by rw [h _ (by omega)]; exact c t ht, fun u hu => ?_, fun u r g hu hr hg2 => ?_⟩
  · rw [h _ (by omega), h _ (by omega), h _ (by omega)]
    exact e u hu
  · have h6 := (hg.2.2.2.1 u (by omega)).1
    have hb := fbs_lt (u := u) (r := r) (f := g) (by omega) (by omega) hg2
    exact mrow_congr (hg.2.2.2.2.1 _ (by unfold rwn; omega)).1 (fun k hk => h _ (by omega)) (f u r g hu hr hg2)
/-- the model holds G -/
def seeMd (C : Nat → Nat → Int32) (G : aGl) : Prop := seesM (C 75) (gcur G) ∧ C 74 5 = bI (gkep G) ∧ (gkep G = true → seesM (C 78) (gsnp G)) ∧ C 74 3 = nI (ghis G).1 ∧ C 74 7 = nI (gtxt G).1 ∧ C 79 = (gtxt G).2 ∧ ∀ i, i < (ghis G).1 → seesM (fun k => C 77 (1028 * i + k)) ((ghis G).2 i)
/-- the rows before, after know, with m known before the copy -/
def knB (C : Nat → Nat → Int32) (n x : Nat) : Nat → Nat → Int32 := fun a i => if a = 77 ∧ i < x ∧ n = 4 then C 77 (i + 1028) else C a i
def knP (C : Nat → Nat → Int32) (m x : Nat) : Nat → Nat → Int32 := fun a i => if a = 77 ∧ 1028 * m ≤ i ∧ i < 1028 * m + x then C 75 (i - 1028 * m) else C a i
def knM (n : Nat) : Nat := if n = 4 then 3 else n
def knC (C : Nat → Nat → Int32) (n : Nat) : Nat → Nat → Int32 := am_u2 (knP (am_u2 (knB C n 3084) 74 3 (nI (knM n))) (knM n) 1028) 74 3 (nI (knM n + 1))
section
variable {d : Nat} {C : Nat → Nat → Int32} {p : Nat → Option Nat}
theorem m_M_know {n : Nat} (hn : C 74 3 = nI n) (h4 : n ≤ 4) : cV (d + 1) 92 [.ref 74] C p (knC C n) p := by
  have copy : ∀ (D : Nat → Nat → Int32) (m : Nat), m < 4 → D 74 3 = nI m → am_At (d + 1) 92 none (am_Ret (am_eV (am_u2 (knP D m 1028) 74 3 (nI (m + 1))) p)) 51 [some (.ref 74), some (.int (nI 0))] [] (am_w D p) (0, 0) := by
    intro D m hm hD
    have loop : ∀ j x, x + j = 1028 → am_At (d + 1) 92 none (am_Ret (am_eV (am_u2 (knP D m 1028) 74 3 (nI (m + 1))) p)) 51 [some (.ref 74), some (.int (nI x))] [] (am_w (knP D m x) p) (0, 0) := by
      intro j
      induction j with
      | zero =>
        intro x hx
        have hx' : x = 1028 := by omega
        subst hx'
        have e3 : knP D m 1028 74 3 = nI m := by simp [knP, hD]
        apply s_M_know_51
        rw [e3, nI_1]
        exact ⟨fun _ => ret_V' rfl rfl, fun h => absurd (by decide) h⟩
      | succ j ih =>
        intro x hx
        have e3 : knP D m x 74 3 = nI m := by simp [knP, hD]
        apply s_M_know_51
        rw [e3, show (1028 : Int32) = nI 1028 from rfl, nI_mul, nI_add, nI_1 x, cl (n := x) (by omega), cl (n := 1028 * m + x) (by omega)]
        refine ⟨fun h => absurd ((le5 (by omega) (by omega)).mp h) (by omega), fun _ => ⟨vpi (by omega) (by decide), vpi (by omega) (by decide), ?_⟩⟩
        have e : am_u2 (knP D m x) 77 (1028 * m + x) (knP D m x 75 x) = knP D m (x + 1) := by
          funext a i
          simp only [am_u2_at, knP]
          by_cases ha : a = 77
          · subst ha
            by_cases hi : i = 1028 * m + x
            · subst hi
              simp [show 1028 * m + x - 1028 * m = x by omega]
            · have e2 : (1028 * m ≤ i ∧ i < 1028 * m + x) ↔ (1028 * m ≤ i ∧ i < 1028 * m + (x + 1)) := by omega
              simp [hi, e2]
          · simp [ha]
        rw [e]
        exact ih (x + 1) (by omega)
    have h0 : D = knP D m 0 := by
      funext a i
      simp only [knP]
      rw [if_neg (by omega)]
    have := loop 1028 0 (by omega)
    rw [← h0] at this
    exact this
  apply e_M_know
  apply s_M_know_0
  rw [hn]
  have key : am_u2 (knB C n 3084) 74 3 (nI (knM n)) 74 3 = nI (knM n) := by rw [am_u2_at, if_pos ⟨rfl, rfl⟩]
  refine ⟨fun h => ?_, fun h => ?_⟩
  · have hn4 : n ≠ 4 := fun e => h (by rw [e]; rfl)
    have e0 : am_u2 (knB C n 3084) 74 3 (nI (knM n)) = C := by
      funext a i
      simp only [am_u2_at, knB, knM, hn4, and_false, if_false]
      by_cases hh : a = 74 ∧ i = 3
      · rw [if_pos hh, hh.1, hh.2, hn]
      · rw [if_neg hh]
    unfold knC
    rw [e0]
    have em : knM n = n := if_neg hn4
    rw [em]
    exact copy C n (by omega) hn
  · have hn4 : n = 4 := nI_inj (b := 4) (by omega) (by decide) h
    subst hn4
    have loop : ∀ j x, x + j = 3084 → am_At (d + 1) 92 none (am_Ret (am_eV (knC C 4) p)) 10 [some (.ref 74), some (.int (nI x))] [] (am_w (knB C 4 x) p) (0, 0) := by
      intro j
      induction j with
      | zero =>
        intro x hx
        have hx' : x = 3084 := by omega
        subst hx'
        have e3 : knB C 4 3084 74 3 = nI 4 := by simp [knB, hn]
        apply s_M_know_10
        rw [e3, nI_pred 3]
        exact ⟨fun _ => copy _ 3 (by decide) key, fun h => absurd (by decide) h⟩
      | succ j ih =>
        intro x hx
        apply s_M_know_10
        rw [show (1028 : Int32) = nI 1028 from rfl, nI_add, nI_1 x, cl (n := x) (by omega), cl (n := 1028 + x) (by omega)]
        refine ⟨fun h => absurd ((le5 (a := 3084) (by omega) (by omega)).mp h) (by omega), fun _ => ⟨vpi (by omega) (by decide), vpi (by omega) (by decide), ?_⟩⟩
        have e : am_u2 (knB C 4 x) 77 x (knB C 4 x 77 (1028 + x)) = knB C 4 (x + 1) := by
          funext a i
          simp only [am_u2_at, knB]
          by_cases ha : a = 77
          · subst ha
            by_cases hi : i = x
            · subst hi
              simp [show i + 1028 = 1028 + i by omega]
              omega
            · have e2 : (i < x) ↔ (i < x + 1) := by omega
              simp [hi, e2]
          · simp [ha]
        rw [e]
        exact ih (x + 1) (by omega)
    have h0 : C = knB C 4 0 := by
      funext a i
      simp only [knB]
      rw [if_neg (by omega)]
    have := loop 3084 0 (by omega)
    rw [← h0] at this
    exact this
theorem knC_fr {n a i : Nat} (h : a ≠ 77) (h2 : ¬ (a = 74 ∧ i = 3)) : knC C n a i = C a i := by
  unfold knC
  rw [am_u2_at, if_neg h2]
  simp only [knP, h, false_and, if_false]
  rw [am_u2_at, if_neg h2]
  simp only [knB, h, false_and, if_false]
theorem use_know {G : aGl} {K : aW → Prop} (hg : gG G) (hs : seeMd C G) (hk : ∀ C', seeMd C' (grec G (gcur G)) → (∀ a i, a ≠ 77 → ¬ (a = 74 ∧ i = 3) → C' a i = C a i) → K (am_w C' p)) : am_Cv (d + 1) 92 [.ref 74] (am_w C p) K := by
  obtain ⟨a, b, c, e, f, g, h⟩ := hs
  have h4 := hg.2.2.1
  refine use_V (m_M_know e h4) (hk _ ?_ (fun a i h1 h2 => knC_fr h1 h2))
  have f75 : knC C (ghis G).1 75 = C 75 := funext fun i => knC_fr (by decide) (by simp)
  have f78 : knC C (ghis G).1 78 = C 78 := funext fun i => knC_fr (by decide) (by simp)
  have f79 : knC C (ghis G).1 79 = C 79 := funext fun i => knC_fr (by decide) (by simp)
  have e1 : (recH (ghis G) (gcur G)).1 = knM (ghis G).1 + 1 := by
    unfold recH knM
    split <;> rfl
  refine ⟨by rw [f75]; exact a, by rw [knC_fr (by decide) (by simp)]; exact b, fun hk => by rw [f78]; exact c hk, ?_, by rw [knC_fr (by decide) (by simp)]; exact f, by rw [f79]; exact g, ?_⟩
  · show knC C (ghis G).1 74 3 = nI (recH (ghis G) (gcur G)).1
    rw [e1]
    unfold knC
    rw [am_u2_at, if_pos ⟨rfl, rfl⟩]
  · show ∀ i, i < (recH (ghis G) (gcur G)).1 → seesM (fun k => knC C (ghis G).1 77 (1028 * i + k)) ((recH (ghis G) (gcur G)).2 i)
    intro i hi
    rw [e1] at hi
    have row : ∀ k, knC C (ghis G).1 77 k = if 1028 * knM (ghis G).1 ≤ k ∧ k < 1028 * knM (ghis G).1 + 1028 then C 75 (k - 1028 * knM (ghis G).1) else if k < 3084 ∧ (ghis G).1 = 4 then C 77 (k + 1028) else C 77 k := by
      intro k
      unfold knC
      rw [am_u2_ne (by decide)]
      simp only [knP, true_and]
      rw [am_u2_ne (by decide), am_u2_ne (by decide)]
      simp [knB]
    have hm3 : knM (ghis G).1 ≤ 3 := by
      unfold knM
      split <;> omega
    by_cases him : i = knM (ghis G).1
    · have e2 : (recH (ghis G) (gcur G)).2 i = gcur G := by
        rw [him]
        unfold recH knM
        by_cases h4' : (ghis G).1 = 4
        · simp [h4']
        · simp [h4']
      rw [e2]
      refine seesM_congr hg.1 (fun k hk => ?_) a
      show knC C (ghis G).1 77 (1028 * i + k) = C 75 k
      rw [row, him, if_pos (by omega)]
      congr 1
      omega
    · by_cases h4' : (ghis G).1 = 4
      · have em : knM (ghis G).1 = 3 := if_pos h4'
        rw [em] at hi him
        have e2 : (recH (ghis G) (gcur G)).2 i = (ghis G).2 (i + 1) := by
          unfold recH
          rw [if_pos h4']
          exact if_neg him
        rw [e2]
        refine seesM_congr (hg.2.2.2.1 (i + 1) (by omega)) (fun k hk => ?_) (h (i + 1) (by omega))
        show knC C (ghis G).1 77 (1028 * i + k) = C 77 (1028 * (i + 1) + k)
        rw [row, em, if_neg (by omega), if_pos ⟨by omega, h4'⟩]
        congr 1
        omega
      · have em : knM (ghis G).1 = (ghis G).1 := if_neg h4'
        rw [em] at hi him
        have e2 : (recH (ghis G) (gcur G)).2 i = (ghis G).2 i := by
          unfold recH
          rw [if_neg h4']
          exact if_neg him
        rw [e2]
        refine seesM_congr (hg.2.2.2.1 i (by omega)) (fun k hk => ?_) (h i (by omega))
        show knC C (ghis G).1 77 (1028 * i + k) = C 77 (1028 * i + k)
        rw [row, em, if_neg (by omega), if_neg (by omega)]
end
