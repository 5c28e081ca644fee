/-! FaceRounds: operations, over what both sides hold -/
variable {zN : Nat}
def cn (x : Int32) : Nat := x.toNatClampNeg
theorem cn_nI {n : Nat} (h : n < 5000) : cn (nI n) = n := cl h
theorem lt_in {x : Int32} {n : Nat} (h : 0 ≤ x.toInt) (h2 : x.toInt < n) (hn : n ≤ 2147483647) : ∃ k, x = nI k ∧ k < n := by
  refine ⟨x.toInt.toNat, ?_, by omega⟩
  rw [← Int32.toInt_inj, nI_toInt (by omega)]
  omega
def hsA (A : aS) (u : Int32) : Bool := decide (0 ≤ u.toInt ∧ u.toInt < A.1)
def hrA (A : aS) (u r : Int32) : Bool := hsA A u && decide (0 ≤ r.toInt ∧ r.toInt < aR A (cn u))
def isT (t : Int32) : Bool := decide (0 ≤ t.toInt ∧ t.toInt < 6)
def isFc (t : Int32) : Bool := decide (0 ≤ t.toInt ∧ t.toInt < 2)
def isRd (t : Int32) : Bool := decide (0 ≤ t.toInt ∧ t.toInt < 1296000)
theorem i32_0 : (0 : Int32).toInt = 0 := by decide
theorem hsA_ok {A : aS} {u : Int32} (h : hsA A u = true) (hg : good A) : ∃ n, u = nI n ∧ n < A.1 := by
  simp only [hsA, decide_eq_true_eq] at h
  exact lt_in h.1 h.2 (by have := hg.1; omega)
theorem hrA_ok {A : aS} {u r : Int32} (h : hrA A u r = true) (hg : good A) : ∃ n m, u = nI n ∧ n < A.1 ∧ n < 4 ∧ r = nI m ∧ m < aR A n ∧ m < 6 := by
  simp only [hrA, Bool.and_eq_true, decide_eq_true_eq] at h
  obtain ⟨n, rfl, hn⟩ := hsA_ok h.1 hg
  have h4 := hg.1
  have h6 := (hg.2.2.2.1 n (by omega)).1
  rw [cn_nI (by omega)] at h
  obtain ⟨m, rfl, hm⟩ := lt_in h.2.1 h.2.2 (by omega)
  exact ⟨n, m, rfl, hn, by omega, rfl, hm, by omega⟩
theorem isT_ok {t : Int32} (h : isT t = true) : ∃ k, t = nI k ∧ k < 6 := by
  simp only [isT, decide_eq_true_eq] at h
  exact lt_in h.1 h.2 (by decide)
theorem isFc_ok {t : Int32} (h : isFc t = true) : ∃ k, t = nI k ∧ k < 2 := by
  simp only [isFc, decide_eq_true_eq] at h
  exact lt_in h.1 h.2 (by decide)
theorem hsu_A {C : Nat → Nat → Int32} {A : aS} {u : Int32} (hs : sees 1 C A) (hg : good A) : hsu C u = hsA A u := by
  have h4 := hg.1
  simp only [hsu, hsA]
  rw [hs.1]
  congr 1
  rw [Int32.lt_iff_toInt_lt, Int32.le_iff_toInt_le, nI_toI (by omega), i32_0]
  apply propext
  omega
theorem hrd_A {C : Nat → Nat → Int32} {A : aS} {u r : Int32} (hs : sees 1 C A) (hg : good A) : hrd C u r = hrA A u r := by
  simp only [hrd, hrA]
  rw [hsu_A hs hg]
  cases hu : hsA A u with
  | false => rfl
  | true =>
    obtain ⟨n, rfl, hn⟩ := hsA_ok hu hg
    have h4 := hg.1
    have h6 := (hg.2.2.2.1 n (by omega)).1
    rw [cl (by omega), cn_nI (by omega), show C 2 n = nI (aR A n) from hs.2.2.2.1 n (by omega)]
    simp only [Bool.true_and]
    congr 1
    rw [Int32.lt_iff_toInt_lt, Int32.le_iff_toInt_le, nI_toI (by omega), i32_0]
    apply propext
    omega
theorem C10_4 {C : Nat → Nat → Int32} {A : aS} (hs : sees 1 C A) (hg : good A) : C 1 0 ≤ 4 := by
  rw [hs.1]
  exact (le5 (b := 4) (by have := hg.1; omega) (by omega)).mpr hg.1
def fP (C : Nat → Nat → Int32) (x : Int32 × aGl) : Option Value → (Nat → Nat → Int32) → (Nat → Option Nat) → Prop := fun r C' p' => r = some (.int x.1) ∧ seeG C' p' x.2 ∧ ∀ z, 74 ≤ z → C' z = C z
theorem leaf {C C' : Nat → Nat → Int32} {p' : Nat → Option Nat} {x : Int32 × aGl} {e e' : Int32} {G' : aGl} (hx : x = (e', G')) (he : e = e') (hs : seeG C' p' G') (hf : ∀ z, 74 ≤ z → C' z = C z) : am_Ret zN (fP C x) (some (.int e)) (am_w zN C' p') := ⟨C', p', rfl, by rw [hx, he], by rw [hx]; exact hs, hf⟩
theorem leaf0 {C : Nat → Nat → Int32} {p : Nat → Option Nat} {x : Int32 × aGl} {e : Int32} {G : aGl} (hs : seeG C p G) (hx : x = (e, G)) : am_Ret zN (fP C x) (some (.int e)) (am_w zN C p) := leaf hx rfl hs (fun _ _ => rfl)
theorem leafR {C C' D : Nat → Nat → Int32} {p' : Nat → Option Nat} {x : Int32 × aGl} {e e' : Int32} {G : aGl} {A : aS} (hs : seeG C' p' (grec G (gcur G))) (hf : ∀ x, x ≤ 20 ∨ 63 ≤ x → C' x = C x) (hx : x = (e', grec G A)) (he : e = e') (hA : sees 1 D A) (hD : ∀ x, x = 0 ∨ 11 ≤ x → D x = C' x) : am_Ret zN (fP C x) (some (.int e)) (am_w zN D p') :=
  leaf hx he (seeG_cur (A := A) hD hs hA) (fun z hz => (hD z (by omega)).trans (hf z (by omega)))
theorem fr_u2 {C : Nat → Nat → Int32} {i k : Nat} {v : Int32} (h : 1 ≤ i ∧ i ≤ 10) : ∀ x, x = 0 ∨ 11 ≤ x → am_u2 C i k v x = C x := fun x hx => am_u2_ne (by omega)
section
variable {d : Nat} {C : Nat → Nat → Int32} {p : Nat → Option Nat} {G : aGl}
theorem m_F_isTarget {t : Int32} : cI zN (d + 1) 75 [.int t] C p (bI (isT t)) C p := by
  have h6 : (6 : Int32).toInt = 6 := by decide
  refine e_F_isTarget (s_F_isTarget_0 ⟨fun h => ⟨Or.inl rfl, ret_I' ?_ rfl rfl⟩, fun h => ⟨fun h2 => ⟨Or.inl rfl, ret_I' ?_ rfl rfl⟩, fun h2 => ⟨Or.inr rfl, ret_I' ?_ rfl rfl⟩⟩⟩)
  · rw [Int32.lt_iff_toInt_lt, i32_0] at h
    simp only [isT, decide_eq_false (show ¬ (0 ≤ t.toInt ∧ t.toInt < 6) by omega)]; rfl
  · rw [Int32.le_iff_toInt_le, h6] at h2
    simp only [isT, decide_eq_false (show ¬ (0 ≤ t.toInt ∧ t.toInt < 6) by omega)]; rfl
  · rw [Int32.lt_iff_toInt_lt, i32_0] at h
    rw [Int32.le_iff_toInt_le, h6] at h2
    simp only [isT, decide_eq_true (show (0 ≤ t.toInt ∧ t.toInt < 6) by omega)]; rfl
theorem m_F_isFace {t : Int32} : cI zN (d + 1) 76 [.int t] C p (bI (isFc t)) C p := by
  have h6 : (2 : Int32).toInt = 2 := by decide
  refine e_F_isFace (s_F_isFace_0 ⟨fun h => ⟨Or.inl rfl, ret_I' ?_ rfl rfl⟩, fun h => ⟨fun h2 => ⟨Or.inl rfl, ret_I' ?_ rfl rfl⟩, fun h2 => ⟨Or.inr rfl, ret_I' ?_ rfl rfl⟩⟩⟩)
  · rw [Int32.lt_iff_toInt_lt, i32_0] at h
    simp only [isFc, decide_eq_false (show ¬ (0 ≤ t.toInt ∧ t.toInt < 2) by omega)]; rfl
  · rw [Int32.le_iff_toInt_le, h6] at h2
    simp only [isFc, decide_eq_false (show ¬ (0 ≤ t.toInt ∧ t.toInt < 2) by omega)]; rfl
  · rw [Int32.lt_iff_toInt_lt, i32_0] at h
    rw [Int32.le_iff_toInt_le, h6] at h2
    simp only [isFc, decide_eq_true (show (0 ≤ t.toInt ∧ t.toInt < 2) by omega)]; rfl
theorem m_F_isReading {t : Int32} : cI zN (d + 1) 77 [.int t] C p (bI (isRd t)) C p := by
  have h6 : (1296000 : Int32).toInt = 1296000 := by decide
  refine e_F_isReading (s_F_isReading_0 ⟨fun h => ⟨Or.inl rfl, ret_I' ?_ rfl rfl⟩, fun h => ⟨fun h2 => ⟨Or.inl rfl, ret_I' ?_ rfl rfl⟩, fun h2 => ⟨Or.inr rfl, ret_I' ?_ rfl rfl⟩⟩⟩)
  · rw [Int32.lt_iff_toInt_lt, i32_0] at h
    simp only [isRd, decide_eq_false (show ¬ (0 ≤ t.toInt ∧ t.toInt < 1296000) by omega)]; rfl
  · rw [Int32.le_iff_toInt_le, h6] at h2
    simp only [isRd, decide_eq_false (show ¬ (0 ≤ t.toInt ∧ t.toInt < 1296000) by omega)]; rfl
  · rw [Int32.lt_iff_toInt_lt, i32_0] at h
    rw [Int32.le_iff_toInt_le, h6] at h2
    simp only [isRd, decide_eq_true (show (0 ≤ t.toInt ∧ t.toInt < 1296000) by omega)]; rfl
/-- setUp -/
def upN (A : aS) : aS := (A.1 + 1, A.2)
def oSetUp (G : aGl) : Int32 × aGl := if (gcur G).1 < 4 then (nI (gcur G).1, grec G (upN (gcur G))) else (-2000003, G)
theorem good_upN {A : aS} (hg : good A) (h : A.1 < 4) : good (upN A) := by
  obtain ⟨h1, h2, h3, h4, h5, h6, h7⟩ := hg
  exact ⟨by show A.1 + 1 ≤ 4; omega, h2, h3, h4, h5, fun u hu hn => h6 u hu (by change A.1 + 1 ≤ u at hn; omega), h7⟩
theorem m_setUp (hg : gG G) (hs : seeG C p G) : am_Call (d + 4) 51 [.ref 0] (am_w zN C p) (am_Ret zN (fP C (oSetUp G))) := by
  have h4 := hg.1.1
  apply e_F_setUp
  apply s_F_setUp_0
  rw [hs.1.1]
  refine ⟨fun h => use_rec hg hs fun C' p' hs' hf => ?_, fun h => leaf0 hs ?_⟩
  · have h' := (lt5 (b := 4) (by omega) (by omega)).mp h
    apply s_F_setUp_25
    have e1 : C' 1 0 = nI (gcur G).1 := hs'.1.1
    refine leafR hs' hf (by rw [oSetUp, if_pos h']) ?_ ?_ (fr_u2 (by decide))
    · rw [am_u2_at, if_pos ⟨rfl, rfl⟩, e1, nI_1, nI_pred]
    · obtain ⟨s0, s1, s2, s3, s4, s5, s6, s7⟩ := hs'.1
      refine ⟨?_, ?_, ?_, ?_, ?_, ?_, ?_, ?_⟩
      · rw [am_u2_at, if_pos ⟨rfl, rfl⟩, e1, nI_1]; rfl
      · rw [am_u2_at, if_neg (by decide)]; exact s1
      · intro t ht; rw [am_u2_ne (by decide)]; exact s2 t ht
      · intro t ht; rw [am_u2_ne (by decide)]; exact s3 t ht
      · intro t ht; rw [am_u2_ne (by decide)]; exact s4 t ht
      · intro t ht; rw [am_u2_ne (by decide)]; exact s5 t ht
      · intro t ht; rw [am_u2_ne (by decide)]; exact s6 t ht
      · intro t ht; rw [am_u2_ne (by decide)]; exact s7 t ht
  · rw [oSetUp, if_neg]
    intro h2
    exact h ((lt5 (b := 4) (by omega) (by omega)).mpr h2)
/-- begin -/
def upR (A : aS) (u n : Nat) : aS := (A.1, A.2.1, aD A, fun x => if x = u then n else aR A x, aO A, aQ A, aF A)
def oBegin (G : aGl) (u : Int32) : Int32 × aGl := if hsA (gcur G) u = true then (if aR (gcur G) (cn u) < 6 then (nI (aR (gcur G) (cn u)), grec G (upR (gcur G) (cn u) (aR (gcur G) (cn u) + 1))) else (-2000003, G)) else (-2000001, G)
theorem good_upR {A : aS} {u n : Nat} (hg : good A) (hu : u < A.1) (hn : aR A u ≤ n) (h6 : n ≤ 6) : good (upR A u n) := by
  obtain ⟨h1, h2, h3, h4, h5, h6', h7⟩ := hg
  refine ⟨h1, h2, h3, fun x hx => ⟨?_, (h4 x hx).2⟩, h5, fun x hx hn => ?_, fun x r f hx hr hf hle => ?_⟩
  · show (if x = u then n else aR A x) ≤ 6
    split
    · exact h6
    · exact (h4 x hx).1
  · change A.1 ≤ x at hn
    show (if x = u then n else aR A x) = 0 ∧ aO A x = 0 ∧ aQ A x = 0
    rw [if_neg (by omega)]
    exact h6' x hx hn
  · change (if x = u then n else aR A x) ≤ r at hle
    show aF A _ = f0
    refine h7 x r f hx hr hf ?_
    by_cases e : x = u
    · rw [if_pos e] at hle
      rw [e]
      omega
    · rw [if_neg e] at hle
      exact hle
theorem m_begin {u : Int32} (hg : gG G) (hs : seeG C p G) : am_Call (d + 4) 52 [.ref 0, .int u] (am_w zN C p) (am_Ret zN (fP C (oBegin G u))) := by
  apply e_F_begin
  apply s_F_begin_0
  refine use_I m_S_hasSetUp (s_F_begin_8 ?_)
  rw [hsu_A hs.1 hg.1]
  refine ⟨fun h => ?_, fun h => leaf0 hs ?_⟩
  · rw [bI_ne] at h
    obtain ⟨n, rfl, hn⟩ := hsA_ok h hg.1
    have h4 := hg.1.1
    have h6 := (hg.1.2.2.2.1 n (by omega)).1
    have e2 : C 2 n = nI (aR (gcur G) n) := hs.1.2.2.2.1 n (by omega)
    rw [cl (by omega), e2]
    have hv := vpi (n := n) (N := 4) (by omega) (by decide)
    refine ⟨hv, fun h2 => use_rec hg hs fun C' p' hs' hf => s_F_begin_42 ?_, fun h2 => leaf0 hs ?_⟩
    · have h' := (lt5 (b := 6) (by omega) (by omega)).mp h2
      rw [cl (by omega)]
      have e1 : C' 2 n = nI (aR (gcur G) n) := hs'.1.2.2.2.1 n (by omega)
      refine ⟨hv, hv, hv, leafR hs' hf (by rw [oBegin, if_pos h, cn_nI (by omega), if_pos h']) ?_ ?_ (fr_u2 (by decide))⟩
      · rw [am_u2_at, if_pos ⟨rfl, rfl⟩, e1, nI_1, nI_pred]
      · obtain ⟨s0, s1, s2, s3, s4, s5, s6, s7⟩ := hs'.1
        refine ⟨?_, ?_, ?_, ?_, ?_, ?_, ?_, ?_⟩
        · rw [am_u2_ne (by decide)]; exact s0
        · rw [am_u2_ne (by decide)]; exact s1
        · intro t ht; rw [am_u2_ne (by decide)]; exact s2 t ht
        · intro t ht
          show am_u2 C' 2 n (C' 2 n + 1) 2 t = nI (if t = n then aR (gcur G) n + 1 else aR (gcur G) t)
          rw [am_u2_at]
          by_cases e : t = n
          · rw [if_pos ⟨rfl, e⟩, if_pos e, e1, nI_1]
          · rw [if_neg (by omega), if_neg e]
            exact s3 t ht
        · intro t ht; rw [am_u2_ne (by decide)]; exact s4 t ht
        · intro t ht; rw [am_u2_ne (by decide)]; exact s5 t ht
        · intro t ht; rw [am_u2_ne (by decide)]; exact s6 t ht
        · intro t ht; rw [am_u2_ne (by decide)]; exact s7 t ht
    · rw [oBegin, if_pos h, cn_nI (by omega), if_neg]
      intro h3
      exact h2 ((lt5 (b := 6) (by omega) (by omega)).mpr h3)
  · rw [bI_eq] at h
    rw [oBegin, if_neg (by rw [h]; decide)]
end
