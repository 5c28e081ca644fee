/-! the model: operations -/
def fPm (C : Nat → Nat → Int32) (p : Nat → Option Nat) (x : Int32 × aGl) : Option Value → (Nat → Nat → Int32) → (Nat → Option Nat) → Prop := fun r C' p' => r = some (.int x.1) ∧ seeMd C' x.2 ∧ p' = p ∧ ∀ z, z < 74 → C' z = C z
theorem lfM {C C' : Nat → Nat → Int32} {p : Nat → Option Nat} {x : Int32 × aGl} {e e' : Int32} {G' : aGl} (hx : x = (e', G')) (he : e = e') (hs : seeMd C' G') (hf : ∀ z, z < 74 → C' z = C z) : am_Ret (fPm C p x) (some (.int e)) (am_w C' p) := ⟨C', p, rfl, by rw [hx, he], by rw [hx]; exact hs, rfl, hf⟩
theorem lfM0 {C : Nat → Nat → Int32} {p : Nat → Option Nat} {x : Int32 × aGl} {e : Int32} {G : aGl} (hs : seeMd C G) (hx : x = (e, G)) : am_Ret (fPm C p x) (some (.int e)) (am_w C p) := lfM hx rfl hs (fun _ _ => rfl)
/-- only cells of the row at hand differ -/
theorem seeMd_cur {C D : Nat → Nat → Int32} {G : aGl} {A : aS} (h : ∀ x, 74 ≤ x → x ≠ 75 → D x = C x) (hs : seeMd C G) (ha : seesM (D 75) A) : seeMd D (gcs G A) := by
  obtain ⟨-, b, c, e, f, g, i⟩ := hs
  refine ⟨ha, ?_, fun hk => ?_, ?_, ?_, ?_, fun j hj => ?_⟩
  · rw [h 74 (by decide) (by decide)]; exact b
  · rw [h 78 (by decide) (by decide)]; exact c hk
  · rw [h 74 (by decide) (by decide)]; exact e
  · rw [h 74 (by decide) (by decide)]; exact f
  · rw [h 79 (by decide) (by decide)]; exact g
  · rw [h 77 (by decide) (by decide)]; exact i j hj
theorem lfR {C C' D : Nat → Nat → Int32} {p : Nat → Option Nat} {x : Int32 × aGl} {e e' : Int32} {G : aGl} {A : aS} (hs : seeMd C' (grec G (gcur G))) (hf : ∀ a i, a ≠ 77 → ¬ (a = 74 ∧ i = 3) → C' a i = C a i) (hx : x = (e', grec G A)) (he : e = e') (hA : seesM (D 75) A) (hD : ∀ x, x ≠ 75 → D x = C' x) : am_Ret (fPm C p x) (some (.int e)) (am_w D p) :=
  lfM hx he (seeMd_cur (A := A) (fun x _ hx => hD x hx) hs hA) (fun z hz => (hD z (by omega)).trans (funext fun i => hf z i (by omega) (by omega)))
def rowc (C : Nat → Nat → Int32) (a b o x : Nat) : Nat → Nat → Int32 := fun y i => if y = a ∧ i < x then C b (o + i) else C y i
theorem rowc_0 {C : Nat → Nat → Int32} {a b o : Nat} : rowc C a b o 0 = C := by
  funext y i
  simp [rowc]
theorem rowc_s {C : Nat → Nat → Int32} {a b o x : Nat} (h : b ≠ a) : am_u2 (rowc C a b o x) a x (rowc C a b o x b (o + x)) = rowc C a b o (x + 1) := by
  funext y i
  simp only [am_u2_at, rowc]
  by_cases hy : y = a
  · subst hy
    by_cases hi : i = x
    · subst hi
      simp [h]
    · have e : (i < x) ↔ (i < x + 1) := by omega
      simp [hi, e]
  · simp [hy]
theorem rowc_a {C : Nat → Nat → Int32} {a b o k : Nat} (hk : k < 1028) : rowc C a b o 1028 a k = C b (o + k) := by simp [rowc, hk]
theorem rowc_n {C : Nat → Nat → Int32} {a b o x y : Nat} (h : y ≠ a) : rowc C a b o x y = C y := by
  funext i
  simp [rowc, h]
/-- one cell before the set-ups' rows -/
theorem seesM_lo {C : Nat → Nat → Int32} {A B : aS} {i : Nat} {x : Int32} (hg : good A) (hi : i < 8) (hs : seesM (C 75) A) (h0 : am_u2 C 75 i x 75 0 = nI B.1) (h1 : am_u2 C 75 i x 75 1 = B.2.1) (h2 : ∀ t, t < 6 → am_u2 C 75 i x 75 (2 + t) = aD B t) (hB : B.1 = A.1 ∧ aR B = aR A ∧ aO B = aO A ∧ aQ B = aQ A ∧ aF B = aF A) : seesM (am_u2 C 75 i x 75) B := by
  obtain ⟨b1, b2, b3, b4, b5⟩ := hB
  obtain ⟨-, -, -, e, f⟩ := hs
  have h4 := hg.1
  have e' : ∀ k, 8 ≤ k → am_u2 C 75 i x 75 k = C 75 k := fun k hk => by rw [am_u2_at, if_neg (by omega)]
  refine ⟨h0, h1, h2, fun u hu => ?_, fun u r g hu hr hg2 => ?_⟩
  · rw [b1] at hu
    rw [e' _ (by omega), e' _ (by omega), e' _ (by omega), b2, b3, b4]
    exact e u hu
  · rw [b1] at hu
    rw [b2] at hr
    have h6 := (hg.2.2.2.1 u (by omega)).1
    rw [b5]
    refine mrow_congr (hg.2.2.2.2.1 _ (by unfold rwn; omega)).1 (fun k hk => e' _ ?_) (f u r g hu hr hg2)
    unfold fbs
    omega
section
variable {d : Nat} {C : Nat → Nat → Int32} {p : Nat → Option Nat} {G : aGl}
theorem m_M_puts {i : Nat} {x : Int32} (hi : i < 1028) : cI (d + 1) 95 [.ref 74, .int (nI i), .int x] C p (C 75 i) (am_u2 C 75 i x) p := by
  apply e_M_puts
  apply s_M_puts_0
  rw [cl (by omega)]
  exact ⟨vpi hi (by decide), vpi hi (by decide), ret_I' rfl rfl rfl⟩
theorem in1 {x hi : Int32} {n : Int} (h : hi.toInt = n) : (¬ x < 1 ∧ ¬ hi < x) ↔ rb 1 n x = true := by
  rw [rb, decide_eq_true_eq, Int32.lt_iff_toInt_lt, Int32.lt_iff_toInt_lt, c_1, h]
  omega
theorem M_setLimit {x : Int32} (hg : gG G) (hs : seeMd C G) : am_Call (d + 3) 129 [.ref 74, .int x] (am_w C p) (am_Ret (fPm C p (oSetLimit G x))) := by
  apply e_M_setLimit
  apply s_M_setLimit_0
  refine use_I (m_M_in (in1 c_600)) (s_M_setLimit_8 ⟨fun h => ?_, fun h => lfM0 hs (by rw [oSetLimit, if_pos (bI_eq.mp h)])⟩)
  rw [bI_ne] at h
  rw [show ((1 : Int32).toNatClampNeg) = 1 from rfl, hs.1.2.1]
  refine ⟨vpi (n := 1) (by decide) (by decide), fun h2 => use_know hg hs fun C' hs' hf => s_M_setLimit_31 (use_I (m_M_puts (i := 1) (by decide)) (s_M_setLimit_37 ?_)), fun h2 => lfM0 hs (by rw [oSetLimit, if_neg (by rw [h]; decide), if_pos h2])⟩
  refine lfR (A := upL (gcur G) x) (e' := (gcur G).2.1) hs' hf (by rw [oSetLimit, if_neg (by rw [h]; decide), if_neg h2]) hs'.1.2.1 (seesM_lo hg.1 (by decide) hs'.1 ?_ ?_ (fun t ht => ?_) ⟨rfl, rfl, rfl, rfl, rfl⟩) (fun x hx => am_u2_ne hx)
  · rw [am_u2_at, if_neg (by decide)]; exact hs'.1.1
  · rw [am_u2_at, if_pos ⟨rfl, rfl⟩]; rfl
  · rw [am_u2_at, if_neg (by omega)]; exact hs'.1.2.2.1 t ht
theorem M_setDistance {t x : Int32} (hg : gG G) (hs : seeMd C G) : am_Call (d + 3) 131 [.ref 74, .int t, .int x] (am_w C p) (am_Ret (fPm C p (oSetDistance G t x))) := by
  apply e_M_setDistance
  apply s_M_setDistance_0
  refine use_I m_M_isTarget (s_M_setDistance_4 ⟨fun h1 => use_I (m_M_in (in1 c_9999)) (s_M_setDistance_18 ⟨fun h => ?_, fun h => lfM0 hs ?_⟩), fun h => lfM0 hs (by rw [oSetDistance, if_pos (bI_eq.mp h)])⟩)
  · rw [bI_ne] at h h1
    obtain ⟨tn, rfl, ht⟩ := isT_ok h1
    rw [show (2 : Int32) = nI 2 from rfl, nI_add, cl (by omega), hs.1.2.2.1 tn ht]
    have E : oSetDistance G (nI tn) x = if aD (gcur G) tn = x then (-2000005, G) else (aD (gcur G) tn, grec G (upD (gcur G) tn x)) := by
      rw [oSetDistance, if_neg (by rw [h1]; decide), if_neg (by rw [h]; decide), cn_nI (by omega)]
    refine ⟨vpi (by omega) (by decide), fun h2 => use_know hg hs fun C' hs' hf => s_M_setDistance_43 ?_, fun h2 => lfM0 hs (by rw [E, if_pos h2])⟩
    rw [show (2 : Int32) = nI 2 from rfl, nI_add]
    refine use_I (m_M_puts (i := 2 + tn) (by omega)) (s_M_setDistance_51 ?_)
    refine lfR (A := upD (gcur G) tn x) (e' := aD (gcur G) tn) hs' hf (by rw [E, if_neg h2]) (hs'.1.2.2.1 tn ht) (seesM_lo hg.1 (by omega) hs'.1 ?_ ?_ (fun k hk => ?_) ⟨rfl, rfl, rfl, rfl, rfl⟩) (fun x hx => am_u2_ne hx)
    · rw [am_u2_at, if_neg (by omega)]; exact hs'.1.1
    · rw [am_u2_at, if_neg (by omega)]; exact hs'.1.2.1
    · rw [am_u2_at]
      show _ = if k = tn then x else aD (gcur G) k
      by_cases e : k = tn
      · rw [if_pos ⟨rfl, by omega⟩, if_pos e]
      · rw [if_neg (by omega), if_neg e]; exact hs'.1.2.2.1 k hk
  · rw [bI_ne] at h1
    rw [oSetDistance, if_neg (by rw [h1]; decide), if_pos (bI_eq.mp h)]
theorem M_type {x : Int32} (hx : vp_nar .char x = x) (hg : gG G) (hs : seeMd C G) : am_Call (d + 1) 132 [.ref 74, .int x] (am_w C p) (am_Ret (fPm C p (oType G x))) := by
  apply e_M_type
  apply s_M_type_0
  have h60 : (gtxt G).1 ≤ 60 := hg.2.2.2.2
  obtain ⟨a, b, c, e, f, g, i⟩ := hs
  have e7 : am_u2 C 79 (gtxt G).1 x 74 7 = nI (gtxt G).1 := by rw [am_u2_ne (by decide)]; exact f
  rw [f, cl (by omega), e7, nI_1]
  refine ⟨fun h => ?_, fun h => ?_⟩
  · have h' : (gtxt G).1 < 60 := by
      by_cases h2 : (gtxt G).1 = 60
      · exact absurd (by rw [h2]; rfl) h
      · omega
    have e1 : am_u2 (am_u2 C 79 (gtxt G).1 x) 74 7 (nI ((gtxt G).1 + 1)) 74 7 = nI ((gtxt G).1 + 1) := by rw [am_u2_at, if_pos ⟨rfl, rfl⟩]
    have fr : ∀ y, y ≠ 74 → y ≠ 79 → am_u2 (am_u2 C 79 (gtxt G).1 x) 74 7 (nI ((gtxt G).1 + 1)) y = C y := fun y h1 h2 => by rw [am_u2_ne h1, am_u2_ne h2]
    have fr2 : ∀ k, k ≠ 7 → am_u2 (am_u2 C 79 (gtxt G).1 x) 74 7 (nI ((gtxt G).1 + 1)) 74 k = C 74 k := fun k h1 => by rw [am_u2_at, if_neg (by omega), am_u2_ne (by decide)]
    refine ⟨vpi h' (by decide), lfM (e' := nI ((gtxt G).1 + 1)) (G' := gtx G ((gtxt G).1 + 1) (fun k => if k = (gtxt G).1 then vp_nar .char x else (gtxt G).2 k)) (by rw [oType, if_pos h']) e1 ⟨by rw [fr 75 (by decide) (by decide)]; exact a, by rw [fr2 5 (by decide)]; exact b, fun hk => by rw [fr 78 (by decide) (by decide)]; exact c hk, by rw [fr2 3 (by decide)]; exact e, e1, ?_, fun j hj => by rw [fr 77 (by decide) (by decide)]; exact i j hj⟩ (fun z hz => fr z (by omega) (by omega))⟩
    funext k
    show am_u2 (am_u2 C 79 (gtxt G).1 x) 74 7 (nI ((gtxt G).1 + 1)) 79 k = if k = (gtxt G).1 then vp_nar .char x else (gtxt G).2 k
    rw [am_u2_ne (by decide), am_u2_at, hx]
    by_cases hk : k = (gtxt G).1
    · rw [if_pos ⟨rfl, hk⟩, if_pos hk]
    · rw [if_neg (by omega), if_neg hk]
      exact congrFun g k
  · have h2 : (gtxt G).1 = 60 := nI_inj (b := 60) (by omega) (by decide) h
    exact lfM0 ⟨a, b, c, e, f, g, i⟩ (by rw [oType, if_neg (by omega)])
theorem M_clearText (hs : seeMd C G) : am_Call (d + 1) 133 [.ref 74] (am_w C p) (am_Ret (fPm C p (oClear G))) := by
  apply e_M_clearText
  apply s_M_clearText_0
  obtain ⟨a, b, c, e, f, g, i⟩ := hs
  have fr : ∀ y, y ≠ 74 → am_u2 C 74 7 0 y = C y := fun y h1 => am_u2_ne h1
  have fr2 : ∀ k, k ≠ 7 → am_u2 C 74 7 0 74 k = C 74 k := fun k h1 => by rw [am_u2_at, if_neg (by omega)]
  exact lfM (G' := gtx G 0 (gtxt G).2) rfl f ⟨by rw [fr 75 (by decide)]; exact a, by rw [fr2 5 (by decide)]; exact b, fun hk => by rw [fr 78 (by decide)]; exact c hk, by rw [fr2 3 (by decide)]; exact e, by rw [am_u2_at, if_pos ⟨rfl, rfl⟩]; rfl, by rw [fr 79 (by decide)]; exact g, fun j hj => by rw [fr 77 (by decide)]; exact i j hj⟩ (fun z hz => fr z (by omega))
theorem M_keep (hg : gG G) (hs : seeMd C G) : am_Call (d + 1) 139 [.ref 74] (am_w C p) (am_Ret (fPm C p (oKeep G))) := by
  obtain ⟨a, b, c, e, f, g, i⟩ := hs
  have loop : ∀ j x, x + j = 1028 → am_At (d + 1) 139 none (am_Ret (fPm C p (oKeep G))) 2 [some (.ref 74), some (.int (nI x))] [] (am_w (rowc C 78 75 0 x) p) (0, 0) := by
    intro j
    induction j with
    | zero =>
      intro x hx
      have hx' : x = 1028 := by omega
      subst hx'
      apply s_M_keep_2
      have fr : ∀ y, y ≠ 74 → y ≠ 78 → am_u2 (rowc C 78 75 0 1028) 74 5 1 y = C y := fun y h1 h2 => by rw [am_u2_ne h1, rowc_n h2]
      have fr2 : ∀ k, k ≠ 5 → am_u2 (rowc C 78 75 0 1028) 74 5 1 74 k = C 74 k := fun k h1 => by rw [am_u2_at, if_neg (by omega), rowc_n (by decide)]
      refine ⟨fun _ => ⟨Or.inr rfl, vpi (n := 0) (by decide) (by decide), lfM (G' := (gcur G, true, gcur G, ghis G, gtxt G)) rfl ?_ ⟨by rw [fr 75 (by decide) (by decide)]; exact a, by rw [am_u2_at, if_pos ⟨rfl, rfl⟩]; rfl, fun _ => ?_, by rw [fr2 3 (by decide)]; exact e, by rw [fr2 7 (by decide)]; exact f, by rw [fr 79 (by decide) (by decide)]; exact g, fun j hj => by rw [fr 77 (by decide) (by decide)]; exact i j hj⟩ (fun z hz => fr z (by omega) (by omega))⟩, fun h => absurd (by decide) h⟩
      · rw [fr 75 (by decide) (by decide)]; exact a.1
      · rw [am_u2_ne (by decide)]
        refine seesM_congr hg.1 (fun k hk => ?_) a
        rw [rowc_a hk, Nat.zero_add]
    | succ j ih =>
      intro x hx
      apply s_M_keep_2
      rw [cl (by omega), nI_1]
      have hr := rowc_s (C := C) (a := 78) (b := 75) (o := 0) (x := x) (by decide)
      rw [Nat.zero_add] at hr
      rw [hr]
      exact ⟨fun h => absurd ((le5 (a := 1028) (by omega) (by omega)).mp h) (by omega), fun _ => ⟨vpi (by omega) (by decide), vpi (by omega) (by decide), ih (x + 1) (by omega)⟩⟩
  have h0 := loop 1028 0 (by omega)
  rw [rowc_0] at h0
  exact e_M_keep (s_M_keep_0 h0)
end
