/-! the model: signs and numbers of its text -/
def tC (C : Nat → Nat → Int32) (a : Nat) (w : Bool) : Nat → Nat → Int32 := am_u2 (am_u2 C 74 8 (nI a)) 74 9 (bI w)
def cc (L : Nat) (ch : Nat → Int32) (a : Nat) : Int32 := if a < L then ch a else 0
def okc (L : Nat) (ch : Nat → Int32) (lo hi : Int32) (a : Nat) : Bool := decide (a < L ∧ ¬ ch a < lo ∧ ¬ hi < ch a)
theorem okc_in {L : Nat} {ch : Nat → Int32} {lo hi : Int32} {a : Nat} (hlo : 0 < lo) : (¬ cc L ch a < lo ∧ ¬ hi < cc L ch a) ↔ okc L ch lo hi a = true := by
  unfold okc cc
  rw [decide_eq_true_eq]
  by_cases h : a < L
  · rw [if_pos h]
    exact ⟨fun q => ⟨h, q⟩, fun q => q.2⟩
  · rw [if_neg h]
    exact ⟨fun q => absurd hlo q.1, fun q => absurd q.1 h⟩
theorem c_48 : (48 : Int32).toInt = 48 := by decide
theorem c_57 : (57 : Int32).toInt = 57 := by decide
theorem c_53 : (53 : Int32).toInt = 53 := by decide
theorem okc_dg {L : Nat} {ch : Nat → Int32} {a : Nat} : okc L ch 48 57 a = (dg L ch a).isSome := by
  unfold okc dg
  by_cases h : a < L ∧ 48 ≤ (ch a).toInt ∧ (ch a).toInt ≤ 57
  · rw [if_pos h, decide_eq_true]
    · rfl
    · rw [Int32.lt_iff_toInt_lt, Int32.lt_iff_toInt_lt, c_48, c_57]
      omega
  · rw [if_neg h, decide_eq_false]
    · rfl
    · rw [Int32.lt_iff_toInt_lt, Int32.lt_iff_toInt_lt, c_48, c_57]
      omega
theorem dg_ch {L : Nat} {ch : Nat → Int32} {a e : Nat} (h : dg L ch a = some e) : ch a = nI (48 + e) ∧ cc L ch a - 48 = nI e := by
  unfold dg at h
  split at h
  · rename_i hc
    have h2 := nI_sub48 hc.2.1 hc.2.2
    have h3 : ((ch a).toInt - 48).toNat = e := by
      cases h
      rfl
    rw [h3] at h2
    refine ⟨?_, ?_⟩
    · apply Int32.toInt_inj.mp
      rw [nI_toI (by omega)]
      omega
    · rw [cc, if_pos hc.1]
      exact h2
  · cases h
theorem okc_tgt {L : Nat} {ch : Nat → Int32} {a : Nat} : okc L ch 48 53 a = (tgt L ch a).isSome ∧ ∀ t, tgt L ch a = some t → cc L ch a - 48 = nI t := by
  unfold tgt
  cases hd : dg L ch a with
  | none =>
    refine ⟨?_, fun t h => (by cases h)⟩
    have h1 := okc_dg (L := L) (ch := ch) (a := a)
    rw [hd] at h1
    have h2 : okc L ch 48 57 a = false := h1
    unfold okc at h2 ⊢
    rw [decide_eq_false_iff_not] at h2
    rw [decide_eq_false]
    · rfl
    · rw [Int32.lt_iff_toInt_lt, Int32.lt_iff_toInt_lt, c_48, c_53]
      rw [Int32.lt_iff_toInt_lt, Int32.lt_iff_toInt_lt, c_48, c_57] at h2
      omega
  | some e =>
    obtain ⟨h1, h2⟩ := dg_ch hd
    obtain ⟨h3, h9⟩ := dg_some hd
    have h4 : (ch a).toInt = ((48 + e : Nat) : Int) := by rw [h1, nI_toI (by omega)]
    by_cases h6 : e < 6
    · simp only [if_pos h6]
      refine ⟨?_, fun t h => ?_⟩
      · unfold okc
        rw [decide_eq_true]
        · rfl
        · rw [Int32.lt_iff_toInt_lt, Int32.lt_iff_toInt_lt, c_48, c_53]
          omega
      · cases h
        exact h2
    · simp only [if_neg h6]
      refine ⟨?_, fun t h => (by cases h)⟩
      unfold okc
      rw [decide_eq_false]
      · rfl
      · rw [Int32.lt_iff_toInt_lt, Int32.lt_iff_toInt_lt, c_48, c_53]
        omega
theorem okc_skp {L : Nat} {ch : Nat → Int32} {c : Int32} {a : Nat} : okc L ch c c a = skp L ch c a := by
  unfold okc skp
  congr 1
  apply propext
  rw [Int32.lt_iff_toInt_lt, Int32.lt_iff_toInt_lt, ← Int32.toInt_inj]
  omega
section
variable {d : Nat} {C : Nat → Nat → Int32} {p : Nat → Option Nat} {L a : Nat} {w : Bool}
theorem tC_8 : tC C a w 74 8 = nI a := by simp [tC, am_u2]
theorem tC_9 : tC C a w 74 9 = bI w := by simp [tC, am_u2]
theorem tC_o {y i : Nat} (h : ¬ (y = 74 ∧ (i = 8 ∨ i = 9))) : tC C a w y i = C y i := by
  simp only [tC, am_u2_at]
  rw [if_neg (by omega), if_neg (by omega)]
theorem tC_7 : tC C a w 74 7 = C 74 7 := tC_o (by decide)
theorem tC_10 : tC C a w 74 10 = C 74 10 := tC_o (by decide)
theorem tC_79 : tC C a w 79 = C 79 := funext fun i => tC_o (by omega)
theorem tC_up {b : Nat} {w' : Bool} : am_u2 (am_u2 (tC C a w) 74 9 (bI w')) 74 8 (nI b) = tC C b w' := by
  funext y i
  simp only [tC, am_u2_at]
  by_cases hy : y = 74 ∧ i = 8
  · obtain ⟨rfl, rfl⟩ := hy
    simp
  · by_cases h9 : y = 74 ∧ i = 9
    · obtain ⟨rfl, rfl⟩ := h9
      simp
    · simp only [if_neg hy, if_neg h9]
theorem m_M_sign {lo hi : Int32} (hlo : 0 < lo) (hL : C 74 7 = nI L) (h60 : L ≤ 60) (ha : a ≤ L) : cI (d + 2) 134 [.ref 74, .int lo, .int hi] (tC C a w) p (cc L (C 79) a) (tC C (if (w || !okc L (C 79) lo hi a) = true then a else a + 1) (w || !okc L (C 79) lo hi a)) p := by
  have q9 : ∀ y : Int32, am_u2 (tC C a w) 74 9 y 74 9 = y := fun y => by rw [am_u2_at, if_pos ⟨rfl, rfl⟩]
  have q8 : ∀ y : Int32, am_u2 (tC C a w) 74 9 y 74 8 = nI a := fun y => by rw [am_u2_at, if_neg (by decide), tC_8]
  have fin : ∀ w' : Bool, (w || !okc L (C 79) lo hi a) = w' → am_At (d + 2) 134 none (am_Ret (am_eI (cc L (C 79) a) (tC C (if (w || !okc L (C 79) lo hi a) = true then a else a + 1) (w || !okc L (C 79) lo hi a)) p)) 47 [some (.ref 74), some (.int lo), some (.int hi), some (.int (cc L (C 79) a))] [.int (bI w'), .ref 74] (am_w (tC C a w) p) (0, 0) := by
    intro w' hw
    apply s_M_sign_47
    rw [q9, q8, nI_1, nI_p0, tC_up, tC_up, hw]
    refine ⟨bI01 w', fun h => ret_I' rfl ?_ rfl, fun h => ret_I' rfl ?_ rfl⟩
    · rw [bI_eq.mp h]
      rfl
    · rw [bI_ne.mp h]
      rfl
  have mid : am_At (d + 2) 134 none (am_Ret (am_eI (cc L (C 79) a) (tC C (if (w || !okc L (C 79) lo hi a) = true then a else a + 1) (w || !okc L (C 79) lo hi a)) p)) 24 [some (.ref 74), some (.int lo), some (.int hi), none] [.int (cc L (C 79) a)] (am_w (tC C a w) p) (0, 0) := by
    apply s_M_sign_24
    rw [tC_9]
    refine ⟨fun h => s_M_sign_42 (fin true ?_), fun h => use_I (m_M_in (okc_in hlo)) (s_M_sign_39 ⟨fun h2 => fin false ?_, fun h2 => s_M_sign_42 (fin true ?_)⟩)⟩
    · rw [bI_ne.mp h]
      rfl
    · rw [bI_eq.mp h, bI_ne.mp h2]
      rfl
    · rw [bI_eq.mp h, bI_eq.mp h2]
      rfl
  apply e_M_sign
  apply s_M_sign_0
  rw [tC_8, tC_7, hL, cl (by omega), tC_79, le5 (by omega) (by omega)]
  refine ⟨fun h => ?_, fun h => ⟨vpi (by omega) (by decide), ?_⟩⟩
  · have e : cc L (C 79) a = 0 := if_neg (by omega)
    rw [e] at mid
    rw [e]
    exact mid
  · have e : cc L (C 79) a = C 79 a := if_pos (by omega)
    rw [e] at mid
    rw [e]
    exact mid
/-- a sign, once it is wrong -/
theorem m_M_sign_w {lo hi : Int32} (hlo : 0 < lo) (hL : C 74 7 = nI L) (h60 : L ≤ 60) (ha : a ≤ L) : cI (d + 2) 134 [.ref 74, .int lo, .int hi] (tC C a true) p (cc L (C 79) a) (tC C a true) p := m_M_sign hlo hL h60 ha
theorem m_M_sign_ok {lo hi : Int32} (hlo : 0 < lo) (hL : C 74 7 = nI L) (h60 : L ≤ 60) (ha : a ≤ L) (h : okc L (C 79) lo hi a = true) : cI (d + 2) 134 [.ref 74, .int lo, .int hi] (tC C a false) p (cc L (C 79) a) (tC C (a + 1) false) p := by
  have h1 := m_M_sign (d := d) (p := p) (w := false) (hi := hi) hlo hL h60 ha
  rw [h] at h1
  exact h1
theorem m_M_sign_no {lo hi : Int32} (hlo : 0 < lo) (hL : C 74 7 = nI L) (h60 : L ≤ 60) (ha : a ≤ L) (h : okc L (C 79) lo hi a = false) : cI (d + 2) 134 [.ref 74, .int lo, .int hi] (tC C a false) p (cc L (C 79) a) (tC C a true) p := by
  have h1 := m_M_sign (d := d) (p := p) (w := false) (hi := hi) hlo hL h60 ha
  rw [h] at h1
  exact h1
theorem nI_10 (v e : Nat) : (10 : Int32) * nI v + nI (48 + e) - 48 = nI (v * 10 + e) := by
  rw [show (10 : Int32) = nI 10 from rfl, nI_mul, nI_add, show 10 * v + (48 + e) = v * 10 + e + 48 by omega, ← nI_add, show nI 48 = (48 : Int32) from rfl]
  simp
theorem m_M_number_w {most : Nat} (hL : C 74 7 = nI L) (h60 : L ≤ 60) (ha : a ≤ L) : cI (d + 3) 135 [.ref 74, .int (nI most)] (tC C a true) p (cc L (C 79) a - 48) (tC C a true) p := by
  apply e_M_number
  apply s_M_number_0
  refine use_I (m_M_sign_w (by decide) hL h60 ha) (s_M_number_8 (s_M_number_12 ?_))
  rw [tC_9]
  exact ⟨fun _ => ret_I, fun h => absurd h (by decide)⟩
theorem m_M_number_no {most b : Nat} (hL : C 74 7 = nI L) (h60 : L ≤ 60) (ha : a ≤ L) (h : num L (C 79) most a = (b, none)) : cI (d + 3) 135 [.ref 74, .int (nI most)] (tC C a false) p (cc L (C 79) a - 48) (tC C b true) p := by
  cases hd : dg L (C 79) a with
  | none =>
    have e : num L (C 79) most a = (a, none) := by rw [num, hd]
    rw [e] at h
    cases h
    apply e_M_number
    apply s_M_number_0
    refine use_I (m_M_sign_no (by decide) hL h60 ha (by rw [okc_dg, hd]; rfl)) (s_M_number_8 (s_M_number_12 ?_))
    rw [tC_9]
    exact ⟨fun _ => ret_I, fun h => absurd h (by decide)⟩
  | some e0 =>
    have e : num L (C 79) most a = ((numl L (C 79) most (L - (a + 1)) (a + 1) e0).1, some (numl L (C 79) most (L - (a + 1)) (a + 1) e0).2) := by rw [num, hd]
    rw [e] at h
    cases h
theorem m_M_number_ok {most b v : Nat} (hL : C 74 7 = nI L) (h60 : L ≤ 60) (ha : a ≤ L) (hm : 9 ≤ most) (hm2 : most ≤ 400) (h : num L (C 79) most a = (b, some v)) : cI (d + 3) 135 [.ref 74, .int (nI most)] (tC C a false) p (nI v) (tC C b false) p := by
  have loop : ∀ n b v P, b + n = L → v ≤ most → am_Ret P (some (.int (nI (numl L (C 79) most n b v).2))) (am_w (tC C (numl L (C 79) most n b v).1 false) p) →
      am_At (d + 3) 135 none (am_Ret P) 12 [some (.ref 74), some (.int (nI most)), some (.int (nI v))] [] (am_w (tC C b false) p) (0, 0) := by
    intro n
    induction n with
    | zero =>
      intro b v P hb hv hP
      apply s_M_number_12
      rw [tC_9, tC_7, tC_8, hL, le5 (by omega) (by omega)]
      exact ⟨fun _ => hP, fun _ => ⟨fun _ => hP, fun _ => ⟨fun _ => hP, fun h => absurd (by omega) h⟩⟩⟩
    | succ n ih =>
      intro b v P hb hv hP
      apply s_M_number_12
      rw [tC_9, tC_7, tC_8, hL, cl (by omega), tC_79, le5 (by omega) (by omega), nI_le0 (by omega)]
      unfold numl at hP
      refine ⟨fun h => absurd rfl h, fun _ => ⟨fun h => ?_, fun h => ⟨fun h2 => by omega, fun _ => ⟨vpi (by omega) (by decide), ?_⟩⟩⟩⟩
      · rw [if_pos h] at hP
        exact hP
      · rw [if_neg h] at hP
        have ec : cc L (C 79) b = C 79 b := if_pos (by omega)
        have hin := okc_in (L := L) (ch := C 79) (lo := 48) (hi := 57) (a := b) (by decide)
        rw [ec] at hin
        refine use_I (m_M_in hin) (s_M_number_50 ?_)
        rw [tC_8, cl (by omega), tC_79, okc_dg]
        cases hd : dg L (C 79) b with
        | none =>
          rw [hd] at hP
          exact ⟨fun _ => hP, fun q => absurd rfl q⟩
        | some e =>
          rw [hd] at hP
          dsimp only at hP
          have h9 := (dg_some hd).2
          obtain ⟨c1, c2⟩ := dg_ch hd
          rw [c1, nI_10, lt5 (by omega) (by omega)]
          refine ⟨fun q => (nomatch q), fun _ => ⟨vpi (by omega) (by decide), fun q => ?_, fun q => ?_⟩⟩
          · rw [if_neg (by omega)] at hP
            exact hP
          · rw [if_pos (by omega)] at hP
            refine use_I (m_M_sign_ok (by decide) hL h60 (by omega) (by rw [okc_dg, hd]; rfl)) (s_M_number_86 ?_)
            rw [ec, c1, nI_10]
            exact ih (b + 1) _ P (by omega) (by omega) hP
  cases hd : dg L (C 79) a with
  | none =>
    have e : num L (C 79) most a = (a, none) := by rw [num, hd]
    rw [e] at h
    cases h
  | some e0 =>
    have e : num L (C 79) most a = ((numl L (C 79) most (L - (a + 1)) (a + 1) e0).1, some (numl L (C 79) most (L - (a + 1)) (a + 1) e0).2) := by rw [num, hd]
    rw [e] at h
    cases h
    have h9 := dg_some hd
    obtain ⟨c1, c2⟩ := dg_ch hd
    apply e_M_number
    apply s_M_number_0
    refine use_I (m_M_sign_ok (by decide) hL h60 ha (by rw [okc_dg, hd]; rfl)) (s_M_number_8 ?_)
    rw [c2]
    exact loop (L - (a + 1)) (a + 1) e0 _ (by omega) (by omega) ret_I
end
