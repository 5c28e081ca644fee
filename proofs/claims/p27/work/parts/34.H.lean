/-! History -/
variable {zN : Nat}
/-- the states' places: q 0 .. q 3, in p -/
def hst (p : Nat → Option Nat) (q : Nat → Nat) : Prop := (∀ i, i < 4 → p i = some (q i) ∧ (q i = 23 ∨ q i = 33 ∨ q i = 43 ∨ q i = 53)) ∧ ∀ i j, i < 4 → j < 4 → q i = q j → i = j
theorem am_uF_F {p : Nat → Option Nat} {i : Nat} {x : Option Nat} : am_uF (am_F p) 22 i x = am_F (fun b => if b = i then x else p b) := by
  funext a b
  simp only [am_uF, am_F]
  by_cases ha : a = 22
  · subst ha
    simp
  · have : Nat.beq a 22 = false := by
      cases hb : Nat.beq a 22 with
      | false => rfl
      | true => exact absurd (Nat.eq_of_beq_eq_true hb) ha
    simp [ha, this]
def rotq (q : Nat → Nat) : Nat → Nat := fun b => if b = 3 then q 0 else q (b + 1)
def rkp (p : Nat → Option Nat) (i : Nat) : Nat → Option Nat := fun b => if b + 1 < i then p (b + 1) else p b
def rotp (p : Nat → Option Nat) : Nat → Option Nat := fun b => if b = 3 then p 0 else if b < 3 then p (b + 1) else p b
theorem hst_rot {p : Nat → Option Nat} {q : Nat → Nat} (h : hst p q) : hst (rotp p) (rotq q) := by
  obtain ⟨h1, h2⟩ := h
  refine ⟨fun i hi => ?_, fun i j hi hj he => ?_⟩
  · by_cases h3 : i = 3
    · subst h3
      exact h1 0 (by decide)
    · have := h1 (i + 1) (by omega)
      simp only [rotp, rotq, if_neg h3, if_pos (show i < 3 by omega)]
      exact this
  · simp only [rotq] at he
    by_cases a : i = 3 <;> by_cases b : j = 3
    · omega
    · rw [if_pos a, if_neg b] at he
      have := h2 _ _ (by decide) (by omega) he
      omega
    · rw [if_neg a, if_pos b] at he
      have := h2 _ _ (by omega) (by decide) he
      omega
    · rw [if_neg a, if_neg b] at he
      have := h2 _ _ (by omega) (by omega) he
      omega
section
variable {d : Nat} {C : Nat → Nat → Int32} {p : Nat → Option Nat} {q : Nat → Nat}
theorem ob3 {C : Nat → Nat → Int32} {p : Nat → Option Nat} {j : Nat} {f : Prop} (hj : j = 23 ∨ j = 33 ∨ j = 43 ∨ j = 53) (h : f) : am_ob (am_w zN C p) j 3 f := by
  rcases hj with e | e | e | e <;> subst e <;> exact am_ob_i rfl rfl h
theorem m_cp_to {j : Nat} (hj : j = 23 ∨ j = 33 ∨ j = 43 ∨ j = 53) (h : ∀ i, i < 288 → C 10 i = 0 ∨ C 10 i = 1) : cV zN (d + 1) 31 [.ref j, .ref 1] C p (cp 9 C j 1) p := by
  rcases hj with e | e | e | e <;> subst e
  · exact m_cp_23_1 h
  · exact m_cp_33_1 h
  · exact m_cp_43_1 h
  · exact m_cp_53_1 h
theorem m_cp_from {j : Nat} (hj : j = 23 ∨ j = 33 ∨ j = 43 ∨ j = 53) (h : ∀ i, i < 288 → C (j + 9) i = 0 ∨ C (j + 9) i = 1) : cV zN (d + 1) 31 [.ref 1, .ref j] C p (cp 9 C 1 j) p := by
  rcases hj with e | e | e | e <;> subst e
  · exact m_cp_1_23 h
  · exact m_cp_1_33 h
  · exact m_cp_1_43 h
  · exact m_cp_1_53 h
theorem m_H_dropOldest (hq : hst p q) : cV zN (d + 1) 3 [.ref 21] C p (am_u2 C 21 1 (C 21 1 - 1)) (rotp p) := by
  obtain ⟨h1, h2⟩ := hq
  have step : ∀ i, 1 ≤ i → i < 4 → ∀ Post : Option Value → aW → Prop, am_At (d + 1) 3 none Post 9 [some (.ref 21), some (.ref (q 0)), some (.int (nI (i + 1)))] [] (am_w zN C (rkp p (i + 1))) (0, 0) → am_At (d + 1) 3 none Post 9 [some (.ref 21), some (.ref (q 0)), some (.int (nI i))] [] (am_w zN C (rkp p i)) (0, 0) := by
    intro i hi1 hi4 Post hk
    apply s_H_dropOldest_9
    have e1 : nI i - 1 = nI (i - 1) := by
      obtain ⟨m, rfl⟩ : ∃ m, i = m + 1 := ⟨i - 1, by omega⟩
      exact nI_pred m
    rw [e1, nI_1, cl (n := i) (by omega), cl (n := i - 1) (by omega)]
    refine ⟨fun h => absurd ((le5 (a := 4) (b := i) (by omega) (by omega)).mp h) (by omega), fun _ => ⟨vpi (by omega) (by decide), q i, ?_, vpi (by omega) (by decide), ob3 (h1 i hi4).2 ?_⟩⟩
    · show rkp p i i = some (q i)
      rw [rkp, if_neg (by omega)]
      exact (h1 i hi4).1
    · rw [am_uF_F]
      have e2 : (fun b => if b = i - 1 then some (q i) else rkp p i b) = rkp p (i + 1) := by
        funext b
        simp only [rkp]
        by_cases hb : b = i - 1
        · subst hb
          rw [if_pos rfl, if_pos (by omega), show i - 1 + 1 = i by omega]
          exact (h1 i hi4).1.symm
        · rw [if_neg hb]
          by_cases hb2 : b + 1 < i
          · rw [if_pos hb2, if_pos (by omega)]
          · rw [if_neg hb2, if_neg (by omega)]
      rw [e2]
      exact hk
  apply e_H_dropOldest
  apply s_H_dropOldest_0
  refine ⟨vpi (n := 0) (by decide) (by decide), q 0, (h1 0 (by decide)).1, ?_⟩
  have e0 : p = rkp p 1 := by
    funext b
    simp only [rkp]
    rw [if_neg (by omega)]
  have fin : am_At (d + 1) 3 none (am_Ret zN (am_eV (am_u2 C 21 1 (C 21 1 - 1)) (rotp p))) 9 [some (.ref 21), some (.ref (q 0)), some (.int (nI 4))] [] (am_w zN C (rkp p 4)) (0, 0) := by
    apply s_H_dropOldest_9
    refine ⟨fun _ => ⟨vpi (n := 3) (by decide) (by decide), ob3 (h1 0 (by decide)).2 ?_⟩, fun h => absurd (by decide) h⟩
    rw [am_uF_F]
    refine ret_V' rfl ?_
    funext b
    show (if b = 3 then some (q 0) else rkp p 4 b) = _
    simp only [rkp, rotp]
    by_cases hb : b = 3
    · rw [if_pos hb, if_pos hb]
      exact (h1 0 (by decide)).1.symm
    · rw [if_neg hb, if_neg hb]
      by_cases hb2 : b < 3
      · rw [if_pos (by omega), if_pos hb2]
      · rw [if_neg (by omega), if_neg hb2]
  have := step 1 (by decide) (by decide) _ (step 2 (by decide) (by decide) _ (step 3 (by decide) (by decide) _ fin))
  rw [← e0] at this
  exact this
/-- what record does: the places, and the numbers -/
def recq (C : Nat → Nat → Int32) (q : Nat → Nat) : Nat → Nat := if C 21 1 = 4 then rotq q else q
def recp (C : Nat → Nat → Int32) (p : Nat → Option Nat) : Nat → Option Nat := if C 21 1 = 4 then rotp p else p
def recn (C : Nat → Nat → Int32) : Nat := if C 21 1 = 4 then 3 else (C 21 1).toNatClampNeg
def recC (C : Nat → Nat → Int32) (q : Nat → Nat) : Nat → Nat → Int32 := am_u2 (cp 9 C (recq C q (recn C)) 1) 21 1 (nI (recn C + 1))
theorem hst_rec (hq : hst p q) : hst (recp C p) (recq C q) := by
  unfold recp recq
  split
  · exact hst_rot hq
  · exact hq
theorem m_H_record {n : Nat} (hq : hst p q) (hn : C 21 1 = nI n) (h4 : n ≤ 4) (hs : ∀ i, i < 288 → C 10 i = 0 ∨ C 10 i = 1) : cV zN (d + 2) 1 [.ref 21, .ref 1] C p (recC C q) (recp C p) := by
  have key : ∀ (C1 : Nat → Nat → Int32) (p1 : Nat → Option Nat) (q1 : Nat → Nat) (m : Nat), hst p1 q1 → m < 4 → C1 21 1 = nI m → (∀ i, i < 288 → C1 10 i = 0 ∨ C1 10 i = 1) → ∀ P, am_Ret zN P none (am_w zN (am_u2 (cp 9 C1 (q1 m) 1) 21 1 (nI (m + 1))) p1) →
      am_At (d + 2) 1 none (am_Ret zN P) 12 [some (.ref 21), some (.ref 1)] [] (am_w zN C1 p1) (0, 0) := by
    intro C1 p1 q1 m hq1 hm hc hs1 P hP
    have hb := (hq1.1 m hm).2
    apply s_H_record_12
    rw [hc, cl (by omega)]
    refine ⟨vpi hm (by decide), q1 m, (hq1.1 m hm).1, ob3 hb (use_V (m_cp_to hb hs1) ?_)⟩
    apply s_H_record_25
    have e : cp 9 C1 (q1 m) 1 21 1 = nI m := by rw [cp_other (by omega), hc]
    rw [e, nI_1]
    exact hP
  apply e_H_record
  apply s_H_record_0
  refine ⟨fun h => ?_, fun h => use_V (m_H_dropOldest hq) ?_⟩
  · have hm : n < 4 := by
      rw [hn] at h
      have h' : ¬ n = 4 := fun e => h (by rw [e]; rfl)
      omega
    refine key C p q n hq hm hn hs _ (ret_V' ?_ ?_)
    · simp only [recC, recq, recn, if_neg h]
      rw [hn, cl (by omega)]
    · simp only [recp, if_neg h]
  · refine key (am_u2 C 21 1 (C 21 1 - 1)) (rotp p) (rotq q) 3 (hst_rot hq) (by decide) ?_ ?_ _ (ret_V' ?_ ?_)
    · rw [h]
      rfl
    · intro i hi
      rw [am_u2_ne (by decide)]
      exact hs i hi
    · simp only [recC, recq, recn, if_pos h]
      funext x i
      simp only [am_u2_at]
      by_cases hx : x = 21 ∧ i = 1
      · rw [if_pos hx, if_pos hx]
      · rw [if_neg hx, if_neg hx]
        have hj := ((hst_rot hq).1 3 (by decide)).2
        have hne : ∀ z, am_u2 C 21 1 (C 21 1 - 1) (1 + z) i = C (1 + z) i ∨ 20 ≤ z := by
          intro z
          by_cases hz : 20 ≤ z
          · exact Or.inr hz
          · left
            rw [am_u2_ne (by omega)]
        generalize rotq q 3 = j at *
        simp only [cp]
        by_cases c1 : x = j ∧ i < 2
        · rw [if_pos c1, if_pos c1, am_u2_ne (by decide)]
        · rw [if_neg c1, if_neg c1]
          by_cases c2 : j < x ∧ x ≤ j + 9 ∧ i < ln (x - j - 1)
          · rw [if_pos c2, if_pos c2, am_u2_ne (by omega)]
          · rw [if_neg c2, if_neg c2, am_u2_at, if_neg hx]
    · simp only [recp, if_pos h]
def tbC (C : Nat → Nat → Int32) (j n : Nat) : Nat → Nat → Int32 := cp 9 (am_u2 C 21 1 (nI n)) 1 j
theorem m_H_takeBack {n : Nat} (hq : hst p q) (hn : C 21 1 = nI (n + 1)) (h4 : n < 4) (hs : ∀ j, j = 23 ∨ j = 33 ∨ j = 43 ∨ j = 53 → ∀ i, i < 288 → C (j + 9) i = 0 ∨ C (j + 9) i = 1) : cV zN (d + 2) 2 [.ref 21, .ref 1] C p (tbC C (q n) n) p := by
  have hb := (hq.1 n h4).2
  apply e_H_takeBack
  apply s_H_takeBack_0
  have e1 : C 21 1 - 1 = nI n := by rw [hn, nI_pred]
  have e2 : am_u2 C 21 1 (nI n) 21 1 = nI n := by simp [am_u2]
  rw [e1, e2, cl (by omega)]
  refine ⟨fun _ => ⟨vpi h4 (by decide), q n, (hq.1 n h4).1, use_V (m_cp_from hb ?_) (s_H_takeBack_31 (ret_V' rfl rfl))⟩, fun h => ?_⟩
  · intro i hi
    rw [am_u2_ne (by omega)]
    exact hs _ hb i hi
  · rw [hn] at h
    exact absurd h (nI_ne0 (by omega) (by omega))
end
