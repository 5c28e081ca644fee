/-! wipe, clean -/
variable {zN : Nat}
def GA (A : aS) (u : Nat) : aG := fun r => (aF A ((u * 6 + r) * 2), aF A ((u * 6 + r) * 2 + 1))
theorem us_congr {G H : aG} {r t : Nat} (h : G r = H r) : us G r t = us H r t := by simp only [us, h]
theorem reR_congr {G H : aG} {r t : Nat} (h : G r = H r) : reR G r t = reR H r t := by simp only [reR, h]
theorem sgR_congr {G H : aG} {r t : Nat} (h : G r = H r) : sgR G r t = sgR H r t := by simp only [sgR, h]
theorem dst_congr {G H : aG} {t : Nat} : ∀ {N : Nat}, (∀ r, r < N → G r = H r) → dst G t N = dst H t N
  | 0, _ => rfl
  | N + 1, h => by
    unfold dst
    rw [us_congr (h N (by omega)), reR_congr (h N (by omega)), dst_congr (N := N) (fun r hr => h r (by omega))]
theorem rk_congr {G H : aG} {N : Nat} {C : Nat → Nat → Int32} (h : ∀ r, r < N → G r = H r) (hk : rk G N C) : rk H N C := by
  obtain ⟨⟨a1, a2, a3, a4⟩, b, c⟩ := hk
  refine ⟨⟨a1, a2, fun r hr => ?_, fun r t hr ht hu => ?_⟩, fun t ht => ?_, fun r t hr ht hu => ?_⟩
  · rw [a3 r hr]
    exact bs_congr (fun j _ => us_congr (h r hr))
  · rw [← us_congr (h r hr)] at hu
    rw [← reR_congr (h r hr), ← sgR_congr (h r hr)]
    exact a4 r t hr ht hu
  · rw [b t ht]
    simp only [dirO, dst_congr h]
  · rw [← us_congr (h r hr)] at hu
    rw [c r t hr ht hu]
    simp only [lef, dirI, dst_congr h, reR_congr (h r hr)]
def remA (A : aS) (row : Nat) (t : Int32) : aS := match plc (aF A row) t with
  | none => A
  | some k => upF A row (frem (aF A row) k)
def stkA (A : aS) (row : Nat) (t : Int32) : aS := match plc (aF A row) t with
  | none => A
  | some k => upF A row (fstr (aF A row) k 1)
def blk (f : aFace) (t : Int32) : Bool := decide (plc f t = some 0 ∧ f.2.2.2.2 ≠ -1)
def hs1 (f : aFace) (t : Int32) : Nat := if (plc f t).isSome then 1 else 0
def oWipe (G : aGl) (u r t : Int32) : Int32 × aGl := if hrA (gcur G) u r = false then (-2000001, G) else if isT t = false then (-2000001, G) else if blk (aF (gcur G) (rwx u r 0)) t = true ∨ blk (aF (gcur G) (rwx u r 1)) t = true then (-2000004, G) else if hs1 (aF (gcur G) (rwx u r 0)) t + hs1 (aF (gcur G) (rwx u r 1)) t = 0 then (-2000005, G) else (nI (hs1 (aF (gcur G) (rwx u r 0)) t + hs1 (aF (gcur G) (rwx u r 1)) t), grec G (remA (remA (gcur G) (rwx u r 0) t) (rwx u r 1) t))
def wrA (A : aS) (u : Nat) : Option (Nat × Nat) := (wR (GA A u) (aR A u) A.2.1 (aR A u)).1
def clnL (u : Nat) : Nat → aS → Nat × aS
  | 0, A => (0, A)
  | m + 1, A => match wrA A u with
    | none => (0, A)
    | some x => ((clnL u m (stkA (stkA A ((u * 6 + x.1) * 2) (nI x.2)) ((u * 6 + x.1) * 2 + 1) (nI x.2))).1 + 1, (clnL u m (stkA (stkA A ((u * 6 + x.1) * 2) (nI x.2)) ((u * 6 + x.1) * 2 + 1) (nI x.2))).2)
def oClean (G : aGl) (u : Int32) : Int32 × aGl := if hsA (gcur G) u = false then (-2000001, G) else match wrA (gcur G) (cn u) with
  | none => (-2000005, G)
  | some _ => (nI (clnL (cn u) 36 (gcur G)).1, grec G (clnL (cn u) 36 (gcur G)).2)
theorem remA_aR {A : aS} {row : Nat} {t : Int32} : aR (remA A row t) = aR A := by
  unfold remA
  split <;> rfl
theorem stkA_aR {A : aS} {row : Nat} {t : Int32} : aR (stkA A row t) = aR A := by
  unfold stkA
  split <;> rfl
theorem stkA_N {A : aS} {row : Nat} {t : Int32} : (stkA A row t).1 = A.1 := by
  unfold stkA
  split <;> rfl
theorem remA_ne {A : aS} {row row' : Nat} {t : Int32} (h : row' ≠ row) : aF (remA A row t) row' = aF A row' := by
  unfold remA
  split
  · rfl
  · exact if_neg h
theorem good_remA {A : aS} {u r f : Nat} {t : Int32} (hg : good A) (hu : u < 4) (hr : r < aR A u) (hf : f < 2) (hb : blk (aF A ((u * 6 + r) * 2 + f)) t = false) : good (remA A ((u * 6 + r) * 2 + f) t) := by
  have h6 := (hg.2.2.2.1 u hu).1
  have hk := hg.2.2.2.2.1 ((u * 6 + r) * 2 + f) (by omega)
  cases hp : plc (aF A ((u * 6 + r) * 2 + f)) t with
  | none => simp only [remA, hp]; exact hg
  | some k =>
    simp only [remA, hp]
    refine good_upF hg hu hr hf (fok_frem hk (plc_lt hp).1 (fun hx h0 => ?_))
    rw [blk, decide_eq_false_iff_not] at hb
    exact hb ⟨by rw [hp, h0], hx⟩
theorem good_stkA {A : aS} {u r f : Nat} {t : Int32} (hg : good A) (hu : u < 4) (hr : r < aR A u) (hf : f < 2) : good (stkA A ((u * 6 + r) * 2 + f) t) := by
  have h6 := (hg.2.2.2.1 u hu).1
  have hk := hg.2.2.2.2.1 ((u * 6 + r) * 2 + f) (by omega)
  cases hp : plc (aF A ((u * 6 + r) * 2 + f)) t with
  | none => simp only [stkA, hp]; exact hg
  | some k =>
    simp only [stkA, hp]
    exact good_upF hg hu hr hf (fok_fstr hk (Or.inr rfl))
def remC (C : Nat → Nat → Int32) (row : Nat) (t : Int32) : Nat → Nat → Int32 := match plc (fS 1 C row) t with
  | some k => rmvC C row (fS 1 C row).1 k
  | none => C
theorem m_S_remove' {d : Nat} {C : Nat → Nat → Int32} {p : Nat → Option Nat} {row : Nat} {t : Int32} (hr : row < 48) (hc : cok 1 C row) : cV zN (d + 2) 38 [.ref 1, .int (nI row), .int t] C p (remC C row t) p := m_S_remove hr hc
theorem sees_remA {C : Nat → Nat → Int32} {A : aS} {row : Nat} {t : Int32} (hs : sees 1 C A) (hg : good A) (hr : row < 48) : sees 1 (remC C row t) (remA A row t) := by
  unfold remC
  rw [sees_f hs hr]
  cases hp : plc (aF A row) t with
  | none => simp only [remA, hp]; exact hs
  | some k =>
    simp only [remA, hp]
    exact sees_rem hs hg hr (plc_lt hp).1
theorem sees_stkA {C : Nat → Nat → Int32} {A : aS} {row : Nat} {t : Int32} (hs : sees 1 C A) (hg : good A) (hr : row < 48) : sees 1 (stkC C row t) (stkA A row t) := by
  unfold stkC
  rw [sees_f hs hr]
  cases hp : plc (aF A row) t with
  | none => simp only [stkA, hp]; exact hs
  | some k =>
    simp only [stkA, hp]
    exact sees_str hs hg hr (plc_lt hp).1 (Or.inr rfl)
theorem fr_rem {C : Nat → Nat → Int32} {row : Nat} {t : Int32} {x : Nat} (hx : x = 0 ∨ 11 ≤ x) : remC C row t x = C x := by
  unfold remC
  cases plc (fS 1 C row) t with
  | none => rfl
  | some k =>
    funext i
    show rmvC C row (fS 1 C row).1 k x i = C x i
    unfold rmvC shf
    rw [if_neg (by omega), am_u2_ne (by omega)]
theorem fr_stk {C : Nat → Nat → Int32} {row : Nat} {t : Int32} {x : Nat} (hx : x = 0 ∨ 11 ≤ x) : stkC C row t x = C x := by
  unfold stkC
  cases plc (fS 1 C row) t with
  | none => rfl
  | some k => exact am_u2_ne (by omega)
theorem div6 : ∀ r, r < 6 → ∀ t, t < 6 → nI (r * 6 + t) / 6 = nI r ∧ nI (r * 6 + t) - nI (r * 6 + t) / 6 * 6 = nI t := by decide +kernel
section
variable {d : Nat} {C : Nat → Nat → Int32} {p : Nat → Option Nat} {G : aGl}
theorem use_reckon {u : Nat} {A : aS} {K : aW → Prop} (hs : sees 1 C A) (hg : good A) (hu : u < A.1) (hk : ∀ C', agR C' C → rk (GA A u) (aR A u) C' → K (am_w zN C' p)) : am_Cv (d + 5) 14 [.ref 68, .ref 1, .int (nI u)] (am_w zN C p) K := by
  have h4 := hg.1
  have h6 := (hg.2.2.2.1 u (by omega)).1
  refine use_VP (m_R_reckon (u := u) (N := aR A u) (by omega) (hs.2.2.2.1 u (by omega)) h6 (fun r f hr hf => sees_cok hs hg (by omega))) (fun C' hR => hk C' hR.1 (rk_congr (fun r hr => ?_) hR.2))
  simp only [Gc, GA]
  rw [sees_f hs (by omega), sees_f hs (by omega)]
theorem m_wipe {u r t : Int32} (hg : gG G) (hs : seeG C p G) : am_Call (d + 4) 57 [.ref 0, .int u, .int r, .int t] (am_w zN C p) (am_Ret zN (fP C (oWipe G u r t))) := by
  apply e_F_wipe
  apply s_F_wipe_0
  refine use_I (m_S_hasRound (C10_4 hs.1 hg.1)) (s_F_wipe_9 ?_)
  rw [hrd_A hs.1 hg.1]
  refine ⟨fun h => leaf0 hs (by rw [oWipe, if_pos (bI_eq.mp h)]), fun h1 => use_I m_F_isTarget (s_F_wipe_16 ⟨fun h2 => ?_, fun h2 => leaf0 hs ?_⟩)⟩
  · rw [bI_ne] at h1 h2
    have E : oWipe G u r t = if blk (aF (gcur G) (rwx u r 0)) t = true ∨ blk (aF (gcur G) (rwx u r 1)) t = true then (-2000004, G) else if hs1 (aF (gcur G) (rwx u r 0)) t + hs1 (aF (gcur G) (rwx u r 1)) t = 0 then (-2000005, G) else (nI (hs1 (aF (gcur G) (rwx u r 0)) t + hs1 (aF (gcur G) (rwx u r 1)) t), grec G (remA (remA (gcur G) (rwx u r 0) t) (rwx u r 1) t)) := by
      rw [oWipe, if_neg (by rw [h1]; decide), if_neg (by rw [h2]; decide)]
    obtain ⟨un, rn, rfl, hu1, hu, rfl, hr1, hr⟩ := hrA_ok h1 hg.1
    have e0 : rwx (nI un) (nI rn) 0 = (un * 6 + rn) * 2 + 0 := rwx_nI (f := 0) hu hr (by decide)
    have e1 : rwx (nI un) (nI rn) 1 = (un * 6 + rn) * 2 + 1 := rwx_nI (f := 1) hu hr (by decide)
    simp only [e0, e1] at E
    have hh : ∀ f : aFace, hs1 f t ≤ 1 := fun f => by unfold hs1; split <;> omega
    -- one face's check
    have one : ∀ (f a : Nat) (o6 o7 : Option Value), f < 2 → a < 5 → (blk (aF (gcur G) ((un * 6 + rn) * 2 + f)) t = true → oWipe G (nI un) (nI rn) t = (-2000004, G)) →
        (blk (aF (gcur G) ((un * 6 + rn) * 2 + f)) t = false → ∀ o6' o7', am_At (d + 4) 57 none (am_Ret zN (fP C (oWipe G (nI un) (nI rn) t))) 28 [some (.ref 0), some (.int (nI un)), some (.int (nI rn)), some (.int t), some (.int (nI (a + hs1 (aF (gcur G) ((un * 6 + rn) * 2 + f)) t))), some (.int (nI (f + 1))), o6', o7'] [] (am_w zN C p) (0, 0)) →
        am_At (d + 4) 57 none (am_Ret zN (fP C (oWipe G (nI un) (nI rn) t))) 28 [some (.ref 0), some (.int (nI un)), some (.int (nI rn)), some (.int t), some (.int (nI a)), some (.int (nI f)), o6, o7] [] (am_w zN C p) (0, 0) := by
      intro f a o6 o7 hf ha hbad hk
      have hrow : (un * 6 + rn) * 2 + f < 48 := by omega
      have hn6 := (hg.1.2.2.2.2.1 _ hrow).1
      apply s_F_wipe_28
      refine ⟨fun h => absurd ((le5 (a := 2) (b := f) (by omega) (by omega)).mp h) (by omega), fun _ => use_I m_F_rowOf (s_F_wipe_41 (use_I (m_S_placeOf hrow (sees_cok hs.1 hg.1 hrow)) ?_))⟩
      rw [sees_f hs.1 hrow]
      have nxt75 : blk (aF (gcur G) ((un * 6 + rn) * 2 + f)) t = false → am_At (d + 4) 57 none (am_Ret zN (fP C (oWipe G (nI un) (nI rn) t))) 75 [some (.ref 0), some (.int (nI un)), some (.int (nI rn)), some (.int t), some (.int (nI a)), some (.int (nI f)), some (.int (nI ((un * 6 + rn) * 2 + f))), some (.int (oI (-1) (plc (aF (gcur G) ((un * 6 + rn) * 2 + f)) t)))] [] (am_w zN C p) (0, 0) := by
        intro hb
        have hk' := hk hb
        apply s_F_wipe_75
        rw [plc_m1 hn6, nI_1, nI_1]
        refine ⟨fun h => ?_, fun h => ?_⟩
        · have e : hs1 (aF (gcur G) ((un * 6 + rn) * 2 + f)) t = 0 := by simp [hs1, h]
          rw [e] at hk'
          exact hk' _ _
        · have e : hs1 (aF (gcur G) ((un * 6 + rn) * 2 + f)) t = 1 := by
            cases hp : plc (aF (gcur G) ((un * 6 + rn) * 2 + f)) t with
            | none => exact absurd hp h
            | some k => simp [hs1, hp]
          rw [e] at hk'
          exact hk' _ _
      apply s_F_wipe_53
      refine ⟨fun h => nxt75 ?_, fun h => use_I (m_S_isClosed hrow) (s_F_wipe_69 ⟨fun h3 => nxt75 ?_, fun h3 => leaf0 hs (hbad ?_)⟩)⟩
      · rw [blk, decide_eq_false_iff_not]
        intro hb
        exact h (by rw [hb.1]; rfl)
      · rw [bI_eq, decide_eq_false_iff_not, sees_f hs.1 hrow] at h3
        rw [blk, decide_eq_false_iff_not]
        exact fun hb => h3 hb.2
      · rw [bI_ne, decide_eq_true_eq, sees_f hs.1 hrow] at h3
        rw [blk, decide_eq_true_eq]
        refine ⟨?_, h3⟩
        cases hp : plc (aF (gcur G) ((un * 6 + rn) * 2 + f)) t with
        | none => rw [hp] at h; exact absurd h (by decide)
        | some k =>
          rw [hp] at h
          have hk6 := (plc_lt hp).1
          rw [nI_inj (b := 0) (by omega) (by decide) h]
    refine one 0 0 _ _ (by decide) (by decide) (fun hb => by rw [E, if_pos (Or.inl hb)]) (fun hb0 o6 o7 => one 1 _ _ _ (by decide) (by have := hh (aF (gcur G) ((un * 6 + rn) * 2 + 0)); omega) (fun hb => by rw [E, if_pos (Or.inr hb)]) (fun hb1 o6 o7 => ?_))
    rw [if_neg (by rw [hb0, hb1]; decide)] at E
    apply s_F_wipe_28
    rw [Nat.zero_add]
    have hc := hh (aF (gcur G) ((un * 6 + rn) * 2 + 0))
    have hc1 := hh (aF (gcur G) ((un * 6 + rn) * 2 + 1))
    refine ⟨fun _ => ⟨fun h => use_rec hg hs fun C' p' hs' hf' => s_F_wipe_109 ?_, fun h => leaf0 hs (by rw [E, if_pos (nI_inj (b := 0) (by omega) (by omega) h)])⟩, fun h => absurd (by decide) h⟩
    rw [if_neg (fun e => h (by rw [e]; rfl))] at E
    have hs2 : sees 1 C' (gcur G) := hs'.1
    have hg2 := good_remA hg.1 hu hr1 (f := 0) (by decide) hb0
    apply s_F_wipe_112
    refine ⟨fun h => absurd h (by decide), fun _ => use_I (m_F_rowOf (f := 0)) (s_F_wipe_129 (use_V (m_S_remove' (by omega) (sees_cok hs2 hg.1 (by omega))) (s_F_wipe_133 (s_F_wipe_112 ⟨fun h => absurd h (by decide), fun _ => use_I (m_F_rowOf (f := 1)) (s_F_wipe_129 ?_)⟩))))⟩
    have hs3 := sees_remA (t := t) (row := (un * 6 + rn) * 2 + 0) hs2 hg.1 (by omega)
    have hfr := fun x hx => fr_rem (C := C') (row := (un * 6 + rn) * 2 + 0) (t := t) (x := x) hx
    refine use_V (m_S_remove' (row := (un * 6 + rn) * 2 + 1) (by omega) (sees_cok hs3 hg2 (by omega))) (s_F_wipe_133 (s_F_wipe_112 ⟨fun h => leafR hs' hf' E rfl (sees_remA hs3 hg2 (by omega)) (fun x hx => (fr_rem hx).trans (hfr x hx)), fun h => absurd (by decide) h⟩))
  · rw [bI_ne] at h1
    rw [oWipe, if_neg (by rw [h1]; decide), if_pos (bI_eq.mp h2)]
theorem wr_in {A : aS} {u : Nat} {x : Nat × Nat} (h : wrA A u = some x) : x.1 < aR A u ∧ x.2 < 6 := wR_in h
theorem m_clean {u : Int32} (hg : gG G) (hs : seeG C p G) : am_Call (d + 6) 58 [.ref 0, .int u] (am_w zN C p) (am_Ret zN (fP C (oClean G u))) := by
  apply e_F_clean
  apply s_F_clean_0
  refine use_I m_S_hasSetUp (s_F_clean_8 ?_)
  rw [hsu_A hs.1 hg.1]
  refine ⟨fun h1 => ?_, fun h1 => leaf0 hs (by rw [oClean, if_pos (bI_eq.mp h1)])⟩
  rw [bI_ne] at h1
  obtain ⟨n, rfl, hn⟩ := hsA_ok h1 hg.1
  have h4 := hg.1.1
  have E : oClean G (nI n) = match wrA (gcur G) n with
      | none => (-2000005, G)
      | some _ => (nI (clnL n 36 (gcur G)).1, grec G (clnL n 36 (gcur G)).2) := by
    rw [oClean, if_neg (by rw [h1]; decide), cn_nI (by omega)]
  have wrn : ∀ A, good A → n < A.1 → (oX (-1) (wrA A n) = -1 ↔ wrA A n = none) := by
    intro A hA hnA
    cases hw : wrA A n with
    | none => simp [oX]
    | some x =>
      have h6 := (hA.2.2.2.1 n (by have := hA.1; omega)).1
      have hx := wr_in hw
      simp only [oX, reduceCtorEq, iff_false]
      exact (nI_ne (by omega)).1
  refine use_reckon hs.1 hg.1 hn fun C1 hR hk => s_F_clean_26 (use_I (m_R_worst hk) (s_F_clean_40 ?_))
  have hs1 := seeG_agR hR hs
  have fr1 : ∀ z, 74 ≤ z → C1 z = C z := fun z hz => hR z (by omega)
  rw [show C1 1 1 = (gcur G).2.1 from hs1.1.2.1]
  have wn := wrn (gcur G) hg.1 hn
  refine ⟨fun h => use_rec hg hs1 fun C' p' hs' hf' => s_F_clean_60 ?_, fun h => leaf (by rw [E, wn.mp h]) rfl hs1 fr1⟩
  have loop : ∀ (m c : Nat) (A : aS) (D : Nat → Nat → Int32), good A → n < A.1 → seeG D p' (grec G A) → (∀ z, 74 ≤ z → D z = C z) → c + m = 36 → oClean G (nI n) = (nI (c + (clnL n m A).1), grec G (clnL n m A).2) → am_At (d + 6) 58 none (am_Ret zN (fP C (oClean G (nI n)))) 62 [some (.ref 0), some (.int (nI n)), some (.int (oX (-1) (wrA A n))), some (.int (nI c))] [] (am_w zN D p') (0, 0) := by
    intro m
    induction m with
    | zero =>
      intro c A D hA hnA hD hfD hc hE
      apply s_F_clean_62
      have fin : am_Ret zN (fP C (oClean G (nI n))) (some (.int (nI c))) (am_w zN D p') := leaf hE rfl hD hfD
      exact ⟨fun _ => fin, fun _ => ⟨fun _ => fin, fun h36 => absurd ((le5 (a := 36) (b := c) (by omega) (by omega)).mpr (by omega)) h36⟩⟩
    | succ m ih =>
      intro c A D hA hnA hD hfD hc hE
      have h6 := (hA.2.2.2.1 n (by have := hA.1; omega)).1
      apply s_F_clean_62
      rw [wrn A hA hnA]
      refine ⟨fun hw => ?_, fun hw => ⟨fun h36 => absurd ((le5 (a := 36) (b := c) (by omega) (by omega)).mp h36) (by omega), fun _ => ?_⟩⟩
      · simp only [clnL, hw] at hE
        exact leaf hE rfl hD hfD
      · cases hx : wrA A n with
        | none => exact absurd hx hw
        | some x =>
          simp only [clnL, hx] at hE
          obtain ⟨hx1, hx2⟩ := wr_in hx
          obtain ⟨d1, d2⟩ := div6 x.1 (by omega) x.2 hx2
          refine ⟨by decide, by decide, ?_⟩
          simp only [oX]
          rw [d2, d1]
          have hsD : sees 1 D A := hD.1
          have hg1 := good_stkA (t := nI x.2) hA (show n < 4 by omega) hx1 (f := 0) (by decide)
          have hs2 := sees_stkA (t := nI x.2) (row := (n * 6 + x.1) * 2) hsD hA (by omega)
          have hg2 := good_stkA (t := nI x.2) hg1 (show n < 4 by omega) (by rw [stkA_aR]; exact hx1) (f := 1) (by decide)
          have hs3 := sees_stkA (t := nI x.2) (row := (n * 6 + x.1) * 2 + 1) hs2 hg1 (by omega)
          refine use_V (m_S_strikeBoth (by omega) (sees_cok hsD hA (by omega)) (sees_cok hs2 hg1 (by omega))) (s_F_clean_89 ?_)
          have hD3 := seeG_cur (fun z hz => (fr_stk hz).trans (fr_stk hz)) hD hs3
          have hn3 : n < (stkA (stkA A ((n * 6 + x.1) * 2) (nI x.2)) ((n * 6 + x.1) * 2 + 1) (nI x.2)).1 := by rw [stkA_N, stkA_N]; exact hnA
          refine use_reckon hs3 hg2 hn3 fun C4 hR4 hk4 => s_F_clean_104 ?_
          have hD4 := seeG_agR hR4 hD3
          rw [show C4 1 1 = (stkA (stkA A ((n * 6 + x.1) * 2) (nI x.2)) ((n * 6 + x.1) * 2 + 1) (nI x.2)).2.1 from hD4.1.2.1]
          refine use_I (m_R_worst hk4) (s_F_clean_118 ?_)
          rw [nI_1]
          refine ih (c + 1) _ C4 hg2 hn3 hD4 (fun z hz => ?_) (by omega) ?_
          · rw [hR4 z (by omega), fr_stk (by omega), fr_stk (by omega), hfD z hz]
          · rw [hE, show c + 1 + (clnL n m (stkA (stkA A ((n * 6 + x.1) * 2) (nI x.2)) ((n * 6 + x.1) * 2 + 1) (nI x.2))).1 = c + ((clnL n m (stkA (stkA A ((n * 6 + x.1) * 2) (nI x.2)) ((n * 6 + x.1) * 2 + 1) (nI x.2))).1 + 1) by omega]
  refine loop 36 0 (gcur G) C' hg.1 hn hs' (fun z hz => (hf' z (by omega)).trans (fr1 z hz)) rfl ?_
  rw [E]
  cases hw : wrA (gcur G) n with
  | none => exact absurd (wn.mpr hw) h
  | some x => simp only [Nat.zero_add]
end
