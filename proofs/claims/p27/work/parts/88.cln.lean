/-! CLEANING: how many it strikes, and that it ends -/
def rwn (u r f : Nat) : Nat := (u * 6 + r) * 2 + f
theorem own_le (f g : aFace) (t : Int32) : own f g t ≤ 3 := by
  unfold own
  split
  · decide
  · decide
  · split <;> decide
theorem why_le (f g : aFace) (t : Int32) : why f g t ≤ 4 := by
  have := own_le f g t
  unfold why
  split
  · omega
  · split <;> omega
theorem us_pl {A : aS} {u r t : Nat} (h : us (GA A u) r t = true) : (∃ a b, plc (aF A (rwn u r 0)) (nI t) = some a ∧ plc (aF A (rwn u r 1)) (nI t) = some b) ∧ ∃ a b, plc (aF A (rwn u r 0)) 0 = some a ∧ plc (aF A (rwn u r 1)) 0 = some b := by
  simp only [us, decide_eq_true_eq] at h
  obtain ⟨h1, h2⟩ := why_used h
  exact ⟨own_places h1, own_places h2⟩
theorem wT_us {G : aG} {N r : Nat} {s : Option (Nat × Nat) × Int32} (h0 : 0 ≤ s.2) (hx : ∀ x, s.1 = some x → us G x.1 x.2 = true) : ∀ t, 0 ≤ (wT G N r t s).2 ∧ ∀ x, (wT G N r t s).1 = some x → us G x.1 x.2 = true
  | 0 => ⟨h0, hx⟩
  | t + 1 => by
    obtain ⟨a, b⟩ := wT_us (N := N) (r := r) h0 hx t
    rw [wT_s]
    split
    · rename_i hlt
      have hu : us G r t = true := by
        cases hq : us G r t with
        | true => rfl
        | false =>
          exfalso
          have e : lws G N r t = 0 := by rw [lws, hq]; rfl
          rw [e] at hlt
          exact Int32.not_lt.mpr a hlt
      refine ⟨?_, fun x hy => ?_⟩
      · show 0 ≤ lws G N r t
        rw [Int32.le_iff_toInt_le] at a ⊢
        rw [Int32.lt_iff_toInt_lt] at hlt
        omega
      · cases hy
        exact hu
    · exact ⟨a, b⟩
theorem wR_us {G : aG} {N : Nat} {lim : Int32} (h0 : 0 ≤ lim) : ∀ r, 0 ≤ (wR G N lim r).2 ∧ ∀ x, (wR G N lim r).1 = some x → us G x.1 x.2 = true
  | 0 => ⟨h0, fun x h => (by cases h)⟩
  | r + 1 => by
    obtain ⟨a, b⟩ := wR_us (N := N) h0 r
    exact wT_us a b 6
theorem wrA_us {A : aS} {u : Nat} {x : Nat × Nat} (hg : good A) (h : wrA A u = some x) : us (GA A u) x.1 x.2 = true := by
  refine (wR_us ?_ _).2 x h
  rw [Int32.le_iff_toInt_le, i32_0]
  have := hg.2.1.1
  omega
theorem sm_mono {f g : Nat → Nat} : ∀ {m k : Nat}, (∀ j, k ≤ j → j < k + m → f j ≤ g j) → sm f k m ≤ sm g k m
  | 0, _, _ => Nat.le_refl _
  | m + 1, k, h => by
    have h1 := h k (Nat.le_refl _) (by omega)
    have h2 := sm_mono (m := m) (k := k + 1) (fun j a b => h j (by omega) (by omega))
    simp only [sm]
    omega
theorem sm_lt {f g : Nat → Nat} : ∀ {m k i : Nat}, (∀ j, k ≤ j → j < k + m → f j ≤ g j) → k ≤ i → i < k + m → f i < g i → sm f k m < sm g k m
  | 0, k, i, _, h1, h2, _ => by omega
  | m + 1, k, i, h, h1, h2, h3 => by
    simp only [sm]
    by_cases e : i = k
    · subst e
      have h4 := sm_mono (m := m) (k := i + 1) (fun j a b => h j (by omega) (by omega))
      omega
    · have h4 := h k (Nat.le_refl _) (by omega)
      have h5 := sm_lt (m := m) (k := k + 1) (i := i) (fun j a b => h j (by omega) (by omega)) (by omega) (by omega) h3
      omega
/-- how many targets in rounds are used -/
def mu (A : aS) (u : Nat) : Nat := sm (fun r => cb (us (GA A u) r) 6) 0 (aR A u)
theorem mu_le {A : aS} {u : Nat} (h6 : aR A u ≤ 6) : mu A u ≤ 36 := by
  have := sm_le (f := fun r => cb (us (GA A u) r) 6) (b := 6) (m := aR A u) (k := 0) (fun j _ _ => cb_le _ 6)
  unfold mu
  omega
theorem mu_pos {A : aS} {u : Nat} {x : Nat × Nat} (hr : x.1 < aR A u) (ht : x.2 < 6) (h : us (GA A u) x.1 x.2 = true) : 0 < mu A u := by
  have h1 := sm_lt (f := fun _ => 0) (g := fun r => cb (us (GA A u) r) 6) (m := aR A u) (k := 0) (i := x.1) (fun _ _ _ => Nat.zero_le _) (Nat.zero_le _) (by omega) (by
    have := cb_lt (b := fun _ => false) (c := us (GA A u) x.1) (n := 6) (k := x.2) (fun _ _ e => nomatch e) ht rfl h
    show 0 < cb (us (GA A u) x.1) 6
    omega)
  unfold mu
  omega
theorem own_0 {f g : aFace} {t : Int32} : own f g t = 0 ↔ ∃ a b, plc f t = some a ∧ plc g t = some b ∧ f.2.2.2.1 a = 0 ∧ g.2.2.2.1 b = 0 := by
  unfold own
  cases plc f t with
  | none => simp
  | some a =>
    cases plc g t with
    | none => simp
    | some b =>
      by_cases h : f.2.2.2.1 a = 0 ∧ g.2.2.2.1 b = 0
      · simp only [if_pos h]
        exact ⟨fun _ => ⟨a, b, rfl, rfl, h.1, h.2⟩, fun _ => trivial⟩
      · simp only [if_neg h]
        refine ⟨fun e => absurd e (by decide), ?_⟩
        rintro ⟨a', b', ea, eb, h1, h2⟩
        cases ea
        cases eb
        exact absurd ⟨h1, h2⟩ h
theorem why_0 {f g : aFace} {t : Int32} (h1 : own f g t = 0) (h0 : own f g 0 = 0) : why f g t = 0 := by
  unfold why
  by_cases h : own f g t ≠ 0 ∨ t = 0
  · rw [if_pos h]
    exact h1
  · rw [if_neg h, if_pos h0]
theorem own_str {f g : aFace} {a b : Nat} {t : Int32} (h : own (fstr f a 1) (fstr g b 1) t = 0) : own f g t = 0 ∧ plc f t ≠ some a := by
  rw [own_0] at h ⊢
  obtain ⟨a', b', h1, h2, h3, h4⟩ := h
  have h1' : plc f t = some a' := h1
  have h2' : plc g t = some b' := h2
  have ha := (plc_lt h1').1
  have hb := (plc_lt h2').1
  simp only [fstr] at h3 h4
  rw [cut_lt ha] at h3
  rw [cut_lt hb] at h4
  have n10 : ¬ (1 : Int32) = 0 := by decide
  by_cases e : a' = a
  · rw [if_pos e] at h3
    exact absurd h3 n10
  · rw [if_neg e] at h3
    by_cases e2 : b' = b
    · rw [if_pos e2] at h4
      exact absurd h4 n10
    · rw [if_neg e2] at h4
      refine ⟨⟨a', b', h1', h2', h3, h4⟩, fun hh => e ?_⟩
      rw [h1'] at hh
      exact Option.some.inj hh
/-- the worst is struck in both faces -/
def cln1 (A : aS) (u : Nat) (x : Nat × Nat) : aS := stkA (stkA A ((u * 6 + x.1) * 2) (nI x.2)) ((u * 6 + x.1) * 2 + 1) (nI x.2)
theorem cln1_GA {A : aS} {u a b : Nat} {x : Nat × Nat} (h0 : plc (aF A (rwn u x.1 0)) (nI x.2) = some a) (h1 : plc (aF A (rwn u x.1 1)) (nI x.2) = some b) : (∀ r, r ≠ x.1 → GA (cln1 A u x) u r = GA A u r) ∧ GA (cln1 A u x) u x.1 = (fstr (aF A (rwn u x.1 0)) a 1, fstr (aF A (rwn u x.1 1)) b 1) := by
  have e0 : stkA A ((u * 6 + x.1) * 2) (nI x.2) = upF A ((u * 6 + x.1) * 2) (fstr (aF A (rwn u x.1 0)) a 1) := by
    have h0' : plc (aF A ((u * 6 + x.1) * 2)) (nI x.2) = some a := h0
    simp only [stkA, h0']
    rfl
  have f1 : aF (upF A ((u * 6 + x.1) * 2) (fstr (aF A (rwn u x.1 0)) a 1)) ((u * 6 + x.1) * 2 + 1) = aF A (rwn u x.1 1) := if_neg (by omega)
  have e1 : cln1 A u x = upF (upF A ((u * 6 + x.1) * 2) (fstr (aF A (rwn u x.1 0)) a 1)) ((u * 6 + x.1) * 2 + 1) (fstr (aF A (rwn u x.1 1)) b 1) := by
    unfold cln1
    rw [e0]
    unfold stkA
    rw [f1, h1]
  have at' : ∀ row, aF (cln1 A u x) row = if row = (u * 6 + x.1) * 2 + 1 then fstr (aF A (rwn u x.1 1)) b 1 else if row = (u * 6 + x.1) * 2 then fstr (aF A (rwn u x.1 0)) a 1 else aF A row := by
    intro row
    rw [e1]
    rfl
  refine ⟨fun r hr => ?_, ?_⟩
  · unfold GA
    rw [at', at', if_neg (by omega), if_neg (by omega), if_neg (by omega), if_neg (by omega)]
  · unfold GA
    rw [at', at', if_neg (by omega), if_pos rfl, if_pos rfl]
theorem mu_lt {A : aS} {u : Nat} {x : Nat × Nat} (hr : x.1 < aR A u) (ht : x.2 < 6) (h : us (GA A u) x.1 x.2 = true) : mu (cln1 A u x) u < mu A u := by
  obtain ⟨⟨a, b, ha, hb⟩, -⟩ := us_pl h
  obtain ⟨g1, g2⟩ := cln1_GA ha hb
  have eR : aR (cln1 A u x) = aR A := by
    unfold cln1
    rw [stkA_aR, stkA_aR]
  have im : ∀ t, us (GA (cln1 A u x) u) x.1 t = true → us (GA A u) x.1 t = true ∧ t ≠ x.2 := by
    intro t hu
    simp only [us, decide_eq_true_eq] at hu ⊢
    rw [g2] at hu
    obtain ⟨w1, w2⟩ := why_used hu
    obtain ⟨o1, o2⟩ := own_str w1
    obtain ⟨o3, -⟩ := own_str w2
    refine ⟨why_0 o1 o3, fun e => o2 ?_⟩
    rw [e]
    exact ha
  unfold mu
  rw [eR]
  refine sm_lt (i := x.1) (fun j _ _ => ?_) (Nat.zero_le _) (by omega) ?_
  · by_cases e : j = x.1
    · subst e
      exact cb_mono (fun t _ hu => (im t hu).1)
    · refine cb_mono (fun t _ hu => ?_)
      rw [us_congr (g1 j e)] at hu
      exact hu
  · refine cb_lt (k := x.2) (fun t _ hu => (im t hu).1) ht ?_ h
    cases hq : us (GA (cln1 A u x) u) x.1 x.2 with
    | false => rfl
    | true => exact absurd rfl (im x.2 hq).2

theorem good_cln1 {A : aS} {u : Nat} {x : Nat × Nat} (hg : good A) (hu : u < 4) (hr : x.1 < aR A u) : good (cln1 A u x) := by
  have hg1 := good_stkA (t := nI x.2) hg hu hr (f := 0) (by decide)
  exact good_stkA (t := nI x.2) hg1 hu (by rw [stkA_aR]; exact hr) (f := 1) (by decide)
theorem clnL_end {u : Nat} (hu : u < 4) : ∀ (m : Nat) (A : aS), good A → mu A u ≤ m → wrA (clnL u m A).2 u = none
  | 0, A, hg, hm => by
    show wrA A u = none
    cases h : wrA A u with
    | none => rfl
    | some x =>
      have h2 := wr_in h
      have := mu_pos h2.1 h2.2 (wrA_us hg h)
      omega
  | m + 1, A, hg, hm => by
    cases h : wrA A u with
    | none =>
      simp only [clnL, h]
    | some x =>
      have h2 := wr_in h
      have h3 := mu_lt h2.1 h2.2 (wrA_us hg h)
      have ih := clnL_end hu m (cln1 A u x) (good_cln1 hg hu h2.1) (by omega)
      simp only [clnL, h]
      exact ih
theorem cnt_upd {f g : Nat → Int32} : ∀ {m k j : Nat}, k ≤ j → j < k + m → f j = 0 → g j ≠ 0 → (∀ i, i ≠ j → g i = f i) → cnt g k m = cnt f k m + 1
  | 0, k, j, h1, h2, _, _, _ => by omega
  | m + 1, k, j, h1, h2, h3, h4, h5 => by
    unfold cnt
    by_cases e : k = j
    · subst e
      rw [if_neg h4, if_pos h3, cnt_congr (f := g) (g := f) (fun i hi _ => h5 i (by omega))]
      omega
    · rw [h5 k e, cnt_upd (m := m) (k := k + 1) (by omega) (by omega) h3 h4 h5]
      omega
theorem skn_str {f : aFace} {j : Nat} (hj : j < f.1) (h0 : f.2.2.2.1 j = 0) : skn (fstr f j 1) = skn f + 1 := by
  show cnt (cut f.1 (fun k => if k = j then 1 else f.2.2.2.1 k)) 0 f.1 = cnt f.2.2.2.1 0 f.1 + 1
  rw [cnt_congr (f := cut f.1 (fun k => if k = j then 1 else f.2.2.2.1 k)) (g := fun k => if k = j then 1 else f.2.2.2.1 k) (fun i _ hi => cut_lt (by omega))]
  exact cnt_upd (Nat.zero_le _) (by omega) h0 (by simp) (fun i hi => if_neg hi)
theorem sm_congr2 {f g : Nat → Nat} : ∀ {m k : Nat}, (∀ j, k ≤ j → j < k + m → f j = g j) → sm f k m = sm g k m
  | 0, _, _ => rfl
  | m + 1, k, h => by
    unfold sm
    rw [h k (Nat.le_refl _) (by omega), sm_congr2 (m := m) (k := k + 1) (fun j h1 h2 => h j (by omega) (by omega))]
theorem sm_upd {f g : Nat → Nat} : ∀ {m k i : Nat}, k ≤ i → i < k + m → g i = f i + 1 → (∀ j, j ≠ i → g j = f j) → sm g k m = sm f k m + 1
  | 0, k, i, h1, h2, _, _ => by omega
  | m + 1, k, i, h1, h2, h3, h4 => by
    unfold sm
    by_cases e : k = i
    · subst e
      rw [h3, show sm g (k + 1) m = sm f (k + 1) m from sm_congr2 (fun j hj _ => h4 j (by omega))]
      omega
    · rw [h4 k e, sm_upd (m := m) (k := k + 1) (by omega) (by omega) h3 h4]
      omega
theorem nStruck_up {A : aS} {row j : Nat} (hr : row < 48) (hj : j < (aF A row).1) (h0 : (aF A row).2.2.2.1 j = 0) : nStruck (upF A row (fstr (aF A row) j 1)) = nStruck A + 1 := by
  refine sm_upd (i := row) (Nat.zero_le _) (by omega) ?_ (fun x hx => ?_)
  · show skn (if row = row then fstr (aF A row) j 1 else aF A row) = _
    rw [if_pos rfl]
    exact skn_str hj h0
  · show skn (if x = row then fstr (aF A row) j 1 else aF A x) = _
    rw [if_neg hx]
theorem nStruck_cln1 {A : aS} {u : Nat} {x : Nat × Nat} (hu : u < 4) (hr : x.1 < 6) (h : us (GA A u) x.1 x.2 = true) : nStruck (cln1 A u x) = nStruck A + 2 := by
  have h1 : own (GA A u x.1).1 (GA A u x.1).2 (nI x.2) = 0 := by
    simp only [us, decide_eq_true_eq] at h
    exact (why_used h).1
  obtain ⟨a, b, ha, hb, ha0, hb0⟩ := own_0.mp h1
  change plc (aF A ((u * 6 + x.1) * 2)) (nI x.2) = some a at ha
  change plc (aF A ((u * 6 + x.1) * 2 + 1)) (nI x.2) = some b at hb
  change (aF A ((u * 6 + x.1) * 2)).2.2.2.1 a = 0 at ha0
  change (aF A ((u * 6 + x.1) * 2 + 1)).2.2.2.1 b = 0 at hb0
  have e0 : stkA A ((u * 6 + x.1) * 2) (nI x.2) = upF A ((u * 6 + x.1) * 2) (fstr (aF A ((u * 6 + x.1) * 2)) a 1) := by
    unfold stkA
    rw [ha]
  have eF : aF (upF A ((u * 6 + x.1) * 2) (fstr (aF A ((u * 6 + x.1) * 2)) a 1)) ((u * 6 + x.1) * 2 + 1) = aF A ((u * 6 + x.1) * 2 + 1) := by
    show (if (u * 6 + x.1) * 2 + 1 = (u * 6 + x.1) * 2 then _ else aF A ((u * 6 + x.1) * 2 + 1)) = _
    rw [if_neg (by omega)]
  have e1 : cln1 A u x = upF (upF A ((u * 6 + x.1) * 2) (fstr (aF A ((u * 6 + x.1) * 2)) a 1)) ((u * 6 + x.1) * 2 + 1) (fstr (aF (upF A ((u * 6 + x.1) * 2) (fstr (aF A ((u * 6 + x.1) * 2)) a 1)) ((u * 6 + x.1) * 2 + 1)) b 1) := by
    unfold cln1
    rw [e0]
    unfold stkA
    rw [eF, hb]
  rw [e1, nStruck_up (by omega) (by rw [eF]; exact (plc_lt hb).1) (by rw [eF]; exact hb0), nStruck_up (by omega) (plc_lt ha).1 ha0]
theorem clnL_struck {u : Nat} (hu : u < 4) : ∀ (m : Nat) (A : aS), good A → nStruck (clnL u m A).2 = nStruck A + 2 * (clnL u m A).1
  | 0, A, hg => (Nat.add_zero (nStruck A)).symm
  | m + 1, A, hg => by
    cases h : wrA A u with
    | none => simp only [clnL, h, Nat.mul_zero, Nat.add_zero]
    | some x =>
      have h2 := wr_in h
      have h6 := (hg.2.2.2.1 u hu).1
      have ih := clnL_struck hu m (cln1 A u x) (good_cln1 hg hu h2.1)
      have h3 := nStruck_cln1 hu (by omega) (wrA_us hg h)
      have e : (clnL u (m + 1) A).2 = (clnL u m (cln1 A u x)).2 ∧ (clnL u (m + 1) A).1 = (clnL u m (cln1 A u x)).1 + 1 := by
        simp only [clnL, h]
        exact ⟨rfl, rfl⟩
      rw [e.1, e.2, ih, h3]
      omega
theorem wT_none {G : aG} {N r : Nat} : ∀ {t : Nat} {s : Option (Nat × Nat) × Int32}, (wT G N r t s).1 = none ↔ s.1 = none ∧ wT G N r t s = s ∧ ∀ t', t' < t → ¬ s.2 < lws G N r t'
  | 0, s => ⟨fun h => ⟨h, rfl, fun t' ht => absurd ht (Nat.not_lt_zero _)⟩, fun h => h.1⟩
  | t + 1, s => by
    have ih := wT_none (G := G) (N := N) (r := r) (t := t) (s := s)
    rw [wT_s]
    by_cases hl : (wT G N r t s).2 < lws G N r t
    · rw [if_pos hl]
      refine ⟨fun h => (by cases h), fun h => ?_⟩
      have h4 : (wT G N r t s).1 = none := ih.mpr ⟨h.1, (ih.mp ?_).2.1, fun t' ht => h.2.2 t' (by omega)⟩
      · have h5 := (ih.mp h4).2.1
        rw [h5] at hl
        exact absurd hl (h.2.2 t (by omega))
      · exact absurd (h.2.1 ▸ h.1) (by simp)
    · rw [if_neg hl, ih]
      refine ⟨fun h => ⟨h.1, h.2.1, fun t' ht => ?_⟩, fun h => ⟨h.1, h.2.1, fun t' ht => h.2.2 t' (by omega)⟩⟩
      by_cases e : t' = t
      · rw [e]
        rw [h.2.1] at hl
        exact hl
      · exact h.2.2 t' (by omega)
theorem wT_keep {G : aG} {N r : Nat} {s : Option (Nat × Nat) × Int32} : ∀ {t : Nat}, (∀ t', t' < t → ¬ s.2 < lws G N r t') → wT G N r t s = s
  | 0, _ => rfl
  | t + 1, h => by
    rw [wT_s, wT_keep (t := t) (fun t' ht => h t' (by omega)), if_neg (h t (by omega))]
theorem wR_none {G : aG} {N : Nat} {lim : Int32} : ∀ {r : Nat}, (wR G N lim r).1 = none ↔ wR G N lim r = (none, lim) ∧ ∀ r', r' < r → ∀ t, t < 6 → ¬ lim < lws G N r' t
  | 0 => ⟨fun _ => ⟨rfl, fun r' h => absurd h (Nat.not_lt_zero _)⟩, fun _ => rfl⟩
  | r + 1 => by
    have ih := wR_none (G := G) (N := N) (lim := lim) (r := r)
    show (wT G N r 6 (wR G N lim r)).1 = none ↔ wT G N r 6 (wR G N lim r) = (none, lim) ∧ _
    constructor
    · intro h
      obtain ⟨h1, h2, h3⟩ := wT_none.mp h
      obtain ⟨h4, h5⟩ := ih.mp h1
      rw [h2, h4]
      refine ⟨rfl, fun r' hr t ht => ?_⟩
      by_cases e : r' = r
      · rw [e]
        have := h3 t ht
        rw [h4] at this
        exact this
      · exact h5 r' (by omega) t ht
    · intro h
      rw [h.1]
theorem wR_keep {G : aG} {N : Nat} {lim : Int32} : ∀ {r : Nat}, (∀ r', r' < r → ∀ t, t < 6 → ¬ lim < lws G N r' t) → wR G N lim r = (none, lim)
  | 0, _ => rfl
  | r + 1, h => by
    show wT G N r 6 (wR G N lim r) = _
    rw [wR_keep (r := r) (fun r' hr => h r' (by omega))]
    exact wT_keep (fun t ht => h r (by omega) t ht)
theorem wrA_none {A : aS} {u : Nat} : wrA A u = none ↔ ∀ r, r < aR A u → ∀ t, t < 6 → bad (GA A u) (aR A u) A.2.1 r t = false := by
  have e : ∀ r t, bad (GA A u) (aR A u) A.2.1 r t = false ↔ ¬ A.2.1 < lws (GA A u) (aR A u) r t := by
    intro r t
    rw [bad, decide_eq_false_iff_not, Int32.not_lt]
    exact ⟨fun h => Classical.byContradiction h, fun h h2 => h2 h⟩
  unfold wrA
  constructor
  · intro h r hr t ht
    rw [e]
    exact (wR_none.mp h).2 r hr t ht
  · intro h
    rw [wR_keep (fun r hr t ht => (e r t).mp (h r hr t ht))]
theorem bad_0 {A : aS} {u r : Nat} (hg : good A) : bad (GA A u) (aR A u) A.2.1 r 0 = false := by
  have hl := hg.2.1.1
  have e : lws (GA A u) (aR A u) r 0 = 0 := by
    unfold lws
    split
    · have : lef (GA A u) (aR A u) r 0 = 0 := by
        unfold lef dirI
        rw [reR_0, dst_0]
        by_cases h0 : nI (dst (GA A u) 0 (aR A u)).1 = 0
        · rw [h0]; decide
        · have : fdv 0 (nI (dst (GA A u) 0 (aR A u)).1) = 0 := by
            unfold fdv
            rw [show (0 : Int32).toInt = 0 from rfl, Int.zero_ediv]
            rfl
          show nr (0 - fmd (0 + fdv 0 (nI (dst (GA A u) 0 (aR A u)).1))) = 0
          rw [this]
          decide
      rw [this]
      decide
    · rfl
  rw [bad, decide_eq_false_iff_not, e]
  intro h
  apply h
  rw [Int32.le_iff_toInt_le]
  show (0 : Int) ≤ _
  omega
