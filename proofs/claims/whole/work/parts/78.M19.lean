/-! the model: clean -/
theorem wT_us {G : aG} {N r : Nat} {s : Option (Nat × Nat) × Int32} (h0 : 0 ≤ s.2) (hx : ∀ x, s.1 = some x → us G x.1 x.2 = true) : ∀ t, 0 ≤ (wT G N r t s).2 ∧ ∀ x, (wT G N r t s).1 = some x → us G x.1 x.2 = true
  | 0 => ⟨h0, hx⟩
  | t + 1 => by
    obtain ⟨a, b⟩ := wT_us (N := N) (r := r) h0 hx t
    rw [wT_s]
    split
    · rename_i hlt
      have hu : us G r t = true := by
        cases hq : us G r t with
        | true => rfl
        | false =>
          exfalso
          have e : lws G N r t = 0 := by rw [lws, hq]; rfl
          rw [e] at hlt
          exact Int32.not_lt.mpr a hlt
      refine ⟨?_, fun x hy => ?_⟩
      · show 0 ≤ lws G N r t
        rw [Int32.le_iff_toInt_le] at a ⊢
        rw [Int32.lt_iff_toInt_lt] at hlt
        omega
      · cases hy
        exact hu
    · exact ⟨a, b⟩
theorem wR_us {G : aG} {N : Nat} {lim : Int32} (h0 : 0 ≤ lim) : ∀ r, 0 ≤ (wR G N lim r).2 ∧ ∀ x, (wR G N lim r).1 = some x → us G x.1 x.2 = true
  | 0 => ⟨h0, fun x h => (by cases h)⟩
  | r + 1 => by
    obtain ⟨a, b⟩ := wR_us (N := N) h0 r
    exact wT_us a b 6
theorem wrA_us {A : aS} {u : Nat} {x : Nat × Nat} (hg : good A) (h : wrA A u = some x) : us (GA A u) x.1 x.2 = true := by
  refine (wR_us ?_ _).2 x h
  rw [Int32.le_iff_toInt_le, i32_0]
  have := hg.2.1.1
  omega
theorem sm_mono {f g : Nat → Nat} : ∀ {m k : Nat}, (∀ j, k ≤ j → j < k + m → f j ≤ g j) → sm f k m ≤ sm g k m
  | 0, _, _ => Nat.le_refl _
  | m + 1, k, h => by
    have h1 := h k (Nat.le_refl _) (by omega)
    have h2 := sm_mono (m := m) (k := k + 1) (fun j a b => h j (by omega) (by omega))
    simp only [sm]
    omega
theorem sm_lt {f g : Nat → Nat} : ∀ {m k i : Nat}, (∀ j, k ≤ j → j < k + m → f j ≤ g j) → k ≤ i → i < k + m → f i < g i → sm f k m < sm g k m
  | 0, k, i, _, h1, h2, _ => by omega
  | m + 1, k, i, h, h1, h2, h3 => by
    simp only [sm]
    by_cases e : i = k
    · subst e
      have h4 := sm_mono (m := m) (k := i + 1) (fun j a b => h j (by omega) (by omega))
      omega
    · have h4 := h k (Nat.le_refl _) (by omega)
      have h5 := sm_lt (m := m) (k := k + 1) (i := i) (fun j a b => h j (by omega) (by omega)) (by omega) (by omega) h3
      omega
/-- how many targets in rounds are used -/
def mu (A : aS) (u : Nat) : Nat := sm (fun r => cb (us (GA A u) r) 6) 0 (aR A u)
theorem mu_le {A : aS} {u : Nat} (h6 : aR A u ≤ 6) : mu A u ≤ 36 := by
  have := sm_le (f := fun r => cb (us (GA A u) r) 6) (b := 6) (m := aR A u) (k := 0) (fun j _ _ => cb_le _ 6)
  unfold mu
  omega
theorem mu_pos {A : aS} {u : Nat} {x : Nat × Nat} (hr : x.1 < aR A u) (ht : x.2 < 6) (h : us (GA A u) x.1 x.2 = true) : 0 < mu A u := by
  have h1 := sm_lt (f := fun _ => 0) (g := fun r => cb (us (GA A u) r) 6) (m := aR A u) (k := 0) (i := x.1) (fun _ _ _ => Nat.zero_le _) (Nat.zero_le _) (by omega) (by
    have := cb_lt (b := fun _ => false) (c := us (GA A u) x.1) (n := 6) (k := x.2) (fun _ _ e => nomatch e) ht rfl h
    show 0 < cb (us (GA A u) x.1) 6
    omega)
  unfold mu
  omega
theorem own_0 {f g : aFace} {t : Int32} : own f g t = 0 ↔ ∃ a b, plc f t = some a ∧ plc g t = some b ∧ f.2.2.2.1 a = 0 ∧ g.2.2.2.1 b = 0 := by
  unfold own
  cases plc f t with
  | none => simp
  | some a =>
    cases plc g t with
    | none => simp
    | some b =>
      by_cases h : f.2.2.2.1 a = 0 ∧ g.2.2.2.1 b = 0
      · simp only [if_pos h]
        exact ⟨fun _ => ⟨a, b, rfl, rfl, h.1, h.2⟩, fun _ => trivial⟩
      · simp only [if_neg h]
        refine ⟨fun e => absurd e (by decide), ?_⟩
        rintro ⟨a', b', ea, eb, h1, h2⟩
        cases ea
        cases eb
        exact absurd ⟨h1, h2⟩ h
theorem why_0 {f g : aFace} {t : Int32} (h1 : own f g t = 0) (h0 : own f g 0 = 0) : why f g t = 0 := by
  unfold why
  by_cases h : own f g t ≠ 0 ∨ t = 0
  · rw [if_pos h]
    exact h1
  · rw [if_neg h, if_pos h0]
theorem own_str {f g : aFace} {a b : Nat} {t : Int32} (h : own (fstr f a 1) (fstr g b 1) t = 0) : own f g t = 0 ∧ plc f t ≠ some a := by
  rw [own_0] at h ⊢
  obtain ⟨a', b', h1, h2, h3, h4⟩ := h
  have h1' : plc f t = some a' := h1
  have h2' : plc g t = some b' := h2
  have ha := (plc_lt h1').1
  have hb := (plc_lt h2').1
  simp only [fstr] at h3 h4
  rw [cut_lt ha] at h3
  rw [cut_lt hb] at h4
  have n10 : ¬ (1 : Int32) = 0 := by decide
  by_cases e : a' = a
  · rw [if_pos e] at h3
    exact absurd h3 n10
  · rw [if_neg e] at h3
    by_cases e2 : b' = b
    · rw [if_pos e2] at h4
      exact absurd h4 n10
    · rw [if_neg e2] at h4
      refine ⟨⟨a', b', h1', h2', h3, h4⟩, fun hh => e ?_⟩
      rw [h1'] at hh
      exact Option.some.inj hh
/-- the worst is struck in both faces -/
def cln1 (A : aS) (u : Nat) (x : Nat × Nat) : aS := stkA (stkA A ((u * 6 + x.1) * 2) (nI x.2)) ((u * 6 + x.1) * 2 + 1) (nI x.2)
theorem cln1_GA {A : aS} {u a b : Nat} {x : Nat × Nat} (h0 : plc (aF A (rwn u x.1 0)) (nI x.2) = some a) (h1 : plc (aF A (rwn u x.1 1)) (nI x.2) = some b) : (∀ r, r ≠ x.1 → GA (cln1 A u x) u r = GA A u r) ∧ GA (cln1 A u x) u x.1 = (fstr (aF A (rwn u x.1 0)) a 1, fstr (aF A (rwn u x.1 1)) b 1) := by
  have e0 : stkA A ((u * 6 + x.1) * 2) (nI x.2) = upF A ((u * 6 + x.1) * 2) (fstr (aF A (rwn u x.1 0)) a 1) := by
    have h0' : plc (aF A ((u * 6 + x.1) * 2)) (nI x.2) = some a := h0
    simp only [stkA, h0']
    rfl
  have f1 : aF (upF A ((u * 6 + x.1) * 2) (fstr (aF A (rwn u x.1 0)) a 1)) ((u * 6 + x.1) * 2 + 1) = aF A (rwn u x.1 1) := if_neg (by omega)
  have e1 : cln1 A u x = upF (upF A ((u * 6 + x.1) * 2) (fstr (aF A (rwn u x.1 0)) a 1)) ((u * 6 + x.1) * 2 + 1) (fstr (aF A (rwn u x.1 1)) b 1) := by
    unfold cln1
    rw [e0]
    unfold stkA
    rw [f1, h1]
  have at' : ∀ row, aF (cln1 A u x) row = if row = (u * 6 + x.1) * 2 + 1 then fstr (aF A (rwn u x.1 1)) b 1 else if row = (u * 6 + x.1) * 2 then fstr (aF A (rwn u x.1 0)) a 1 else aF A row := by
    intro row
    rw [e1]
    rfl
  refine ⟨fun r hr => ?_, ?_⟩
  · unfold GA
    rw [at', at', if_neg (by omega), if_neg (by omega), if_neg (by omega), if_neg (by omega)]
  · unfold GA
    rw [at', at', if_neg (by omega), if_pos rfl, if_pos rfl]
theorem mu_lt {A : aS} {u : Nat} {x : Nat × Nat} (hr : x.1 < aR A u) (ht : x.2 < 6) (h : us (GA A u) x.1 x.2 = true) : mu (cln1 A u x) u < mu A u := by
  obtain ⟨⟨a, b, ha, hb⟩, -⟩ := us_pl h
  obtain ⟨g1, g2⟩ := cln1_GA ha hb
  have eR : aR (cln1 A u x) = aR A := by
    unfold cln1
    rw [stkA_aR, stkA_aR]
  have im : ∀ t, us (GA (cln1 A u x) u) x.1 t = true → us (GA A u) x.1 t = true ∧ t ≠ x.2 := by
    intro t hu
    simp only [us, decide_eq_true_eq] at hu ⊢
    rw [g2] at hu
    obtain ⟨w1, w2⟩ := why_used hu
    obtain ⟨o1, o2⟩ := own_str w1
    obtain ⟨o3, -⟩ := own_str w2
    refine ⟨why_0 o1 o3, fun e => o2 ?_⟩
    rw [e]
    exact ha
  unfold mu
  rw [eR]
  refine sm_lt (i := x.1) (fun j _ _ => ?_) (Nat.zero_le _) (by omega) ?_
  · by_cases e : j = x.1
    · subst e
      exact cb_mono (fun t _ hu => (im t hu).1)
    · refine cb_mono (fun t _ hu => ?_)
      rw [us_congr (g1 j e)] at hu
      exact hu
  · refine cb_lt (k := x.2) (fun t _ hu => (im t hu).1) ht ?_ h
    cases hq : us (GA (cln1 A u x) u) x.1 x.2 with
    | false => rfl
    | true => exact absurd rfl (im x.2 hq).2
theorem oX10_n {A : aS} {n : Nat} (hA : good A) (hnA : n < A.1) : oX10 (wrA A n) = -2000005 ↔ wrA A n = none := by
  cases hw : wrA A n with
  | none => simp [oX10]
  | some x =>
    have h6 := (hA.2.2.2.1 n (by have := hA.1; omega)).1
    have hx := wr_in hw
    simp only [oX10, reduceCtorEq, iff_false]
    exact (nI_ne (by omega)).2
section
variable {d : Nat} {C : Nat → Nat → Int32} {p : Nat → Option Nat} {G : aGl}
theorem M_clean {u : Int32} (hg : gG G) (hs : seeMd C G) : am_Call (d + 12) 128 [.ref 74, .int u] (am_w C p) (am_Ret (fPm C p (oClean G u))) := by
  apply e_M_clean
  apply s_M_clean_0
  refine use_I (m_M_isSetUp hs.1 hg.1) (s_M_clean_5 ⟨fun h1 => ?_, fun h1 => lfM0 hs (by rw [oClean, if_pos (bI_eq.mp h1)])⟩)
  rw [bI_ne] at h1
  obtain ⟨n, rfl, hn⟩ := hsA_ok h1 hg.1
  have h4 := hg.1.1
  have E1 : wrA (gcur G) n = none → oClean G (nI n) = (-2000005, G) := by
    intro hw
    rw [oClean, if_neg (by rw [h1]; decide), cn_nI (by omega), hw]
  have E2 : wrA (gcur G) n ≠ none → oClean G (nI n) = (nI (0 + (clnL n 36 (gcur G)).1), grec G (clnL n 36 (gcur G)).2) := by
    intro hw
    cases hq : wrA (gcur G) n with
    | none => exact absurd hq hw
    | some x => rw [oClean, if_neg (by rw [h1]; decide), cn_nI (by omega), hq, Nat.zero_add]
  refine use_I (m_M_worst (d := d) hs.1 hg.1 hn) (s_M_clean_16 ?_)
  rw [oX10_n hg.1 hn]
  refine ⟨fun h => ?_, fun h => lfM0 hs (E1 h)⟩
  replace E2 := E2 h
  refine use_know hg hs fun C' hs' hf' => s_M_clean_30 ?_
  have loop : ∀ (m c : Nat) (A : aS) (D : Nat → Nat → Int32) (o4 o5 : Option Value), good A → n < A.1 → mu A n ≤ m → seesM (D 75) A → (∀ z, z ≠ 75 → D z = C' z) → oClean G (nI n) = (nI (c + (clnL n m A).1), grec G (clnL n m A).2) → am_At (d + 12) 128 none (am_Ret (fPm C p (oClean G (nI n)))) 32 [some (.ref 74), some (.int (nI n)), some (.int (oX10 (wrA A n))), some (.int (nI c)), o4, o5] [] (am_w D p) (0, 0) := by
    intro m
    induction m with
    | zero =>
      intro c A D o4 o5 hA hnA hmu hsD hfD hE
      apply s_M_clean_32
      rw [oX10_n hA hnA]
      refine ⟨fun _ => lfR hs' hf' hE rfl hsD hfD, fun hw => ?_⟩
      exfalso
      cases hq : wrA A n with
      | none => exact hw hq
      | some x =>
        have hx := wr_in hq
        have := mu_pos hx.1 hx.2 (wrA_us hA hq)
        omega
    | succ m ih =>
      intro c A D o4 o5 hA hnA hmu hsD hfD hE
      have h4A := hA.1
      have h6 := (hA.2.2.2.1 n (by omega)).1
      cases hq : wrA A n with
      | none =>
        have e : clnL n (m + 1) A = (0, A) := by
          unfold clnL
          rw [hq]
        rw [e] at hE
        apply s_M_clean_32
        exact ⟨fun _ => lfR hs' hf' hE rfl hsD hfD, fun hw => absurd rfl hw⟩
      | some x =>
        have e : clnL n (m + 1) A = ((clnL n m (cln1 A n x)).1 + 1, (clnL n m (cln1 A n x)).2) := by
          rw [clnL, hq]
          rfl
        rw [e] at hE
        have hx := wr_in hq
        have hus := wrA_us hA hq
        have hlt := mu_lt hx.1 hx.2 hus
        obtain ⟨⟨a, b, ha, hb⟩, -⟩ := us_pl hus
        have q1 : nI (10 * x.1 + x.2) / 10 = nI x.1 := by
          rw [show (10 : Int32) = nI 10 from rfl, nI_div (by omega) (by decide) (by decide), show (10 * x.1 + x.2) / 10 = x.1 by omega]
        have q2 : nI (10 * x.1 + x.2) - nI (10 * x.1 + x.2) / 10 * 10 = nI x.2 := by
          rw [show (10 : Int32) = nI 10 from rfl, nI_rem (by omega) (by decide) (by decide), show (10 * x.1 + x.2) % 10 = x.2 by omega]
        have step : ∀ (f k : Nat) (B : aS) (M : Nat → Nat → Int32) (o5 : Option Value), f < 2 → good B → n < B.1 → x.1 < aR B n → plc (aF B (rwn n x.1 f)) (nI x.2) = some k → seesM (M 75) B →
            (∀ o5', am_At (d + 12) 128 none (am_Ret (fPm C p (oClean G (nI n)))) 41 [some (.ref 74), some (.int (nI n)), some (.int (nI (10 * x.1 + x.2))), some (.int (nI c)), some (.int (nI (f + 1))), o5'] [] (am_w (am_u2 M 75 (fbs n x.1 f + 5 + 3 * k) 1) p) (0, 0)) →
            am_At (d + 12) 128 none (am_Ret (fPm C p (oClean G (nI n)))) 41 [some (.ref 74), some (.int (nI n)), some (.int (nI (10 * x.1 + x.2))), some (.int (nI c)), some (.int (nI f)), o5] [] (am_w M p) (0, 0) := by
          intro f k B M o5 hf hB hnB hrB hk hsM hnext
          have h6B := (hB.2.2.2.1 n (by omega)).1
          have fk := hB.2.2.2.2.1 (rwn n x.1 f) (by unfold rwn; omega)
          have fk6 := fk.1
          have hb := fbs_lt (u := n) (r := x.1) (f := f) (by omega) (by omega) hf
          have mr := hsM.2.2.2.2 n x.1 f hnB hrB hf
          have hkl := (plc_lt hk).1
          have pl := m_M_placeOf (d := d + 9) (p := p) (t := nI x.2) hb mr fk
          rw [hk] at pl
          apply s_M_clean_41
          rw [q1]
          refine ⟨fun h2 => absurd ((le5 (a := 2) (b := f) (by decide) (by omega)).mp h2) (by omega), fun _ => ⟨by decide, use_I m_M_faceAt (s_M_clean_57 ?_)⟩⟩
          rw [q2]
          refine ⟨by decide, use_I pl (s_M_clean_75 (use_I (m_M_placed (w := 2)) (s_M_clean_79 ?_)))⟩
          rw [cl (by omega), nI_1, show fbs n x.1 f + 3 + 3 * k + 2 = fbs n x.1 f + 5 + 3 * k by omega]
          exact ⟨vpi (by omega) (by decide), hnext _⟩
        have up : ∀ (f k : Nat) (B : aS) (M : Nat → Nat → Int32), f < 2 → good B → n < B.1 → x.1 < aR B n → plc (aF B (rwn n x.1 f)) (nI x.2) = some k → seesM (M 75) B → seesM (am_u2 M 75 (fbs n x.1 f + 5 + 3 * k) 1 75) (stkA B (rwn n x.1 f) (nI x.2)) := by
          intro f k B M hf hB hnB hrB hk hsM
          have h6B := (hB.2.2.2.1 n (by omega)).1
          have fk := hB.2.2.2.2.1 (rwn n x.1 f) (by unfold rwn; omega)
          have fk6 := fk.1
          have hkl := (plc_lt hk).1
          simp only [stkA, hk]
          exact seesM_face hB hsM hnB hrB hf (fun j hj => by rw [am_u2_at, if_neg (by omega)]) (mrow_str (hsM.2.2.2.2 n x.1 f hnB hrB hf) fk6 hkl)
        have hg1 : good (stkA A (rwn n x.1 0) (nI x.2)) := good_stkA (f := 0) hA (by omega) hx.1 (by decide)
        have hn1 : n < (stkA A (rwn n x.1 0) (nI x.2)).1 := by rw [stkA_N]; exact hnA
        have hr1 : x.1 < aR (stkA A (rwn n x.1 0) (nI x.2)) n := by rw [stkA_aR]; exact hx.1
        have hs1 := up 0 a A D (by decide) hA hnA hx.1 ha hsD
        have eF : aF (stkA A (rwn n x.1 0) (nI x.2)) (rwn n x.1 1) = aF A (rwn n x.1 1) := by
          unfold stkA
          split
          · rfl
          · exact if_neg (by unfold rwn; omega)
        have hb1 : plc (aF (stkA A (rwn n x.1 0) (nI x.2)) (rwn n x.1 1)) (nI x.2) = some b := by rw [eF]; exact hb
        have hs2 := up 1 b _ _ (by decide) hg1 hn1 hr1 hb1 hs1
        have hg2 : good (cln1 A n x) := good_stkA (f := 1) hg1 (by omega) hr1 (by decide)
        have hn2 : n < (cln1 A n x).1 := by unfold cln1; rw [stkA_N, stkA_N]; exact hnA
        apply s_M_clean_32
        refine ⟨fun hh => absurd hh (nI_ne (by omega)).2, fun _ => step 0 a A D _ (by decide) hA hnA hx.1 ha hsD (fun o => step 1 b _ _ _ (by decide) hg1 hn1 hr1 hb1 hs1 (fun o => s_M_clean_41 ⟨fun _ => use_I (m_M_worst (d := d) (A := cln1 A n x) hs2 hg2 hn2) (s_M_clean_95 ?_), fun hh => absurd (by decide) hh⟩))⟩
        rw [nI_1]
        refine ih (c + 1) (cln1 A n x) _ _ _ hg2 hn2 (by omega) hs2 (fun z hz => by rw [am_u2_ne hz, am_u2_ne hz]; exact hfD z hz) ?_
        rw [hE, show c + ((clnL n m (cln1 A n x)).1 + 1) = c + 1 + (clnL n m (cln1 A n x)).1 by omega]
  exact loop 36 0 (gcur G) C' _ _ hg.1 hn (mu_le (hg.1.2.2.2.1 n (by omega)).1) hs'.1 (fun z _ => rfl) E2
end
