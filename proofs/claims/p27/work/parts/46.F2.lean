variable {zN : Nat}
theorem php : ∀ (n : Nat) (f : Nat → Nat), (∀ k, k ≤ n → f k < n) → ∃ j k, j < k ∧ k ≤ n ∧ f j = f k
  | 0, f, h => absurd (h 0 (Nat.le_refl _)) (Nat.not_lt_zero _)
  | n + 1, f, h => by
    by_cases hd : ∃ j, j ≤ n ∧ f j = f (n + 1)
    · obtain ⟨j, h1, h2⟩ := hd
      exact ⟨j, n + 1, by omega, Nat.le_refl _, h2⟩
    · have hd' : ∀ j, j ≤ n → f j ≠ f (n + 1) := fun j h1 h2 => hd ⟨j, h1, h2⟩
      obtain ⟨j, k, h1, h2, h3⟩ := php n (fun k => if f k = n then f (n + 1) else f k) (fun k hk => by
        have a := h k (by omega)
        have b := h (n + 1) (Nat.le_refl _)
        have c := hd' k hk
        show (if f k = n then f (n + 1) else f k) < n
        split <;> omega)
      have a := hd' j (by omega)
      have b := hd' k h2
      refine ⟨j, k, h1, by omega, ?_⟩
      change (if f j = n then f (n + 1) else f j) = (if f k = n then f (n + 1) else f k) at h3
      split at h3 <;> split at h3 <;> omega
theorem nI_inj {a b : Nat} (ha : a < 5000) (hb : b < 5000) (h : nI a = nI b) : a = b := (eq5 ha hb).mp h
theorem fok_room {f : aFace} {t : Nat} (h : fok f) (ht : t < 6) (hp : plc f (nI t) = none) : f.1 < 6 := by
  obtain ⟨a, b, c, e, g⟩ := h
  have hno : ∀ k, k < f.1 → f.2.1 k ≠ nI t := fun k hk => fd_none hp k (Nat.zero_le _) (by omega)
  by_cases h6 : f.1 < 6
  · exact h6
  · exfalso
    have h6' : f.1 = 6 := by omega
    obtain ⟨j, k, h1, h2, h3⟩ := php 6 (fun k => if k < 6 then (f.2.1 k).toNatClampNeg else t) (fun k hk => by
      show (if k < 6 then (f.2.1 k).toNatClampNeg else t) < 6
      split
      · obtain ⟨x, hx, hx2⟩ := e k (by omega)
        rw [hx2, cl (by omega)]
        exact hx
      · exact ht)
    change (if j < 6 then (f.2.1 j).toNatClampNeg else t) = (if k < 6 then (f.2.1 k).toNatClampNeg else t) at h3
    rw [if_pos (by omega)] at h3
    obtain ⟨x, hx, hx2⟩ := e j (by omega)
    rw [hx2, cl (by omega)] at h3
    by_cases hk6 : k < 6
    · rw [if_pos hk6] at h3
      obtain ⟨y, hy, hy2⟩ := e k (by omega)
      rw [hy2, cl (by omega)] at h3
      have := g j k (by omega) (by omega) (by rw [hx2, hy2, h3])
      omega
    · rw [if_neg hk6] at h3
      exact hno j (by omega) (by rw [hx2, h3])
def rwx (u r f : Int32) : Nat := (cn u * 6 + cn r) * 2 + cn f
theorem rwx_nI {u r f : Nat} (hu : u < 4) (hr : r < 6) (hf : f < 2) : rwx (nI u) (nI r) (nI f) = (u * 6 + r) * 2 + f := by
  rw [rwx, cn_nI (by omega), cn_nI (by omega), cn_nI (by omega)]
theorem bf {b : Bool} (h : ¬ b = false) : b = true := by cases b <;> simp_all
theorem bt {b : Bool} (h : ¬ b = true) : b = false := by cases b <;> simp_all
/-- point -/
def oPoint (G : aGl) (u r t f rd : Int32) : Int32 × aGl := if hrA (gcur G) u r = false then (-2000001, G) else if isT t = false then (-2000001, G) else if isFc f = false then (-2000002, G) else if isRd rd = false then (-2000002, G) else if (aF (gcur G) (rwx u r f)).2.2.2.2 = -1 ∧ plc (aF (gcur G) (rwx u r f)) t = none then (nI ((aF (gcur G) (rwx u r f)).1 + 1), grec G (upF (gcur G) (rwx u r f) (fadd (aF (gcur G) (rwx u r f)) t rd))) else (-2000004, G)
/-- close -/
def oClose (G : aGl) (u r f x : Int32) : Int32 × aGl := if hrA (gcur G) u r = false then (-2000001, G) else if isFc f = false then (-2000002, G) else if isRd x = false then (-2000002, G) else if (aF (gcur G) (rwx u r f)).2.2.2.2 = -1 ∧ (aF (gcur G) (rwx u r f)).1 ≠ 0 then (nr (x - (aF (gcur G) (rwx u r f)).2.2.1 0), grec G (upF (gcur G) (rwx u r f) (fclo (aF (gcur G) (rwx u r f)) x))) else (-2000004, G)
/-- how many are struck in a round -/
def skR (A : aS) (u r : Int32) : Nat := skn (aF A (rwx u r 0)) + skn (aF A (rwx u r 1))
/-- strike -/
def oStrike (G : aGl) (u r t f v : Int32) : Int32 × aGl := if hrA (gcur G) u r = false then (-2000001, G) else if isFc f = false then (-2000002, G) else match plc (aF (gcur G) (rwx u r f)) t with
  | none => (-2000001, G)
  | some k => if (aF (gcur G) (rwx u r f)).2.2.2.1 k = v then (-2000005, G) else (nI (skR (upF (gcur G) (rwx u r f) (fstr (aF (gcur G) (rwx u r f)) k v)) u r), grec G (upF (gcur G) (rwx u r f) (fstr (aF (gcur G) (rwx u r f)) k v)))
section
variable {d : Nat} {C : Nat → Nat → Int32} {p : Nat → Option Nat} {G : aGl}
theorem m_point {u r t f rd : Int32} (hg : gG G) (hs : seeG C p G) : am_Call (d + 4) 53 [.ref 0, .int u, .int r, .int t, .int f, .int rd] (am_w zN C p) (am_Ret zN (fP C (oPoint G u r t f rd))) := by
  apply e_F_point
  apply s_F_point_0
  refine use_I (m_S_hasRound (C10_4 hs.1 hg.1)) (s_F_point_9 ?_)
  rw [hrd_A hs.1 hg.1]
  refine ⟨fun h => leaf0 hs (by rw [oPoint, if_pos (bI_eq.mp h)]), fun h1 => use_I m_F_isTarget (s_F_point_16 ⟨fun h2 => use_I m_F_isFace (s_F_point_27 ⟨fun h => leaf0 hs ?_, fun h3 => use_I m_F_isReading (s_F_point_35 ⟨fun h4 => ?_, fun h => leaf0 hs ?_⟩)⟩), fun h => leaf0 hs ?_⟩)⟩
  · rw [bI_ne] at h1 h2
    rw [oPoint, if_neg (by rw [h1]; decide), if_neg (by rw [h2]; decide), if_pos (bI_eq.mp h)]
  · rw [bI_ne] at h1 h2 h3 h4
    have E : oPoint G u r t f rd = if (aF (gcur G) (rwx u r f)).2.2.2.2 = -1 ∧ plc (aF (gcur G) (rwx u r f)) t = none then (nI ((aF (gcur G) (rwx u r f)).1 + 1), grec G (upF (gcur G) (rwx u r f) (fadd (aF (gcur G) (rwx u r f)) t rd))) else (-2000004, G) := by
      rw [oPoint, if_neg (by rw [h1]; decide), if_neg (by rw [h2]; decide), if_neg (by rw [h3]; decide), if_neg (by rw [h4]; decide)]
    obtain ⟨un, rn, rfl, hu1, hu, rfl, hr1, hr⟩ := hrA_ok h1 hg.1
    obtain ⟨tn, rfl, ht⟩ := isT_ok h2
    obtain ⟨fn, rfl, hf⟩ := isFc_ok h3
    rw [rwx_nI hu hr hf] at E
    have hrow : (un * 6 + rn) * 2 + fn < 48 := by omega
    refine use_I m_F_rowOf (s_F_point_48 (use_I (m_S_canTake hrow (sees_cok hs.1 hg.1 hrow)) (s_F_point_60 ⟨fun h5 => ?_, fun h5 => leaf0 hs ?_⟩)))
    · rw [bI_ne, decide_eq_true_eq, sees_f hs.1 hrow] at h5
      rw [if_pos h5] at E
      have hro := fok_room (hg.1.2.2.2.2.1 _ hrow) ht h5.2
      refine use_rec hg hs fun C' p' hs' hf' => s_F_point_77 (use_V (m_S_add hrow (face_n hs'.1 hrow) hro) (s_F_point_89 ?_))
      rw [cl (by omega)]
      have hs2 : sees 1 C' (gcur G) := hs'.1
      refine ⟨vpi hrow (by decide), leafR hs' hf' E ?_ (sees_add hs2 hg.1 hrow hro) (fun x hx => ?_)⟩
      · simp [addC, am_u2_at]; rfl
      · rw [addC, am_u2_ne (by omega), am_u2_ne (by omega), am_u2_ne (by omega), am_u2_ne (by omega)]
    · rw [bI_eq, decide_eq_false_iff_not, sees_f hs.1 hrow] at h5
      rw [E, if_neg h5]
  · rw [bI_ne] at h1 h2 h3
    rw [oPoint, if_neg (by rw [h1]; decide), if_neg (by rw [h2]; decide), if_neg (by rw [h3]; decide), if_pos (bI_eq.mp h)]
  · rw [bI_ne] at h1
    rw [oPoint, if_neg (by rw [h1]; decide), if_pos (bI_eq.mp h)]
theorem m_close {u r f x : Int32} (hg : gG G) (hs : seeG C p G) : am_Call (d + 4) 55 [.ref 0, .int u, .int r, .int f, .int x] (am_w zN C p) (am_Ret zN (fP C (oClose G u r f x))) := by
  apply e_F_close
  apply s_F_close_0
  refine use_I (m_S_hasRound (C10_4 hs.1 hg.1)) (s_F_close_9 ?_)
  rw [hrd_A hs.1 hg.1]
  refine ⟨fun h1 => use_I m_F_isFace (s_F_close_19 ⟨fun h => leaf0 hs ?_, fun h3 => use_I m_F_isReading (s_F_close_27 ⟨fun h4 => ?_, fun h => leaf0 hs ?_⟩)⟩), fun h => leaf0 hs (by rw [oClose, if_pos (bI_eq.mp h)])⟩
  · rw [bI_ne] at h1
    rw [oClose, if_neg (by rw [h1]; decide), if_pos (bI_eq.mp h)]
  · rw [bI_ne] at h1 h3 h4
    have E : oClose G u r f x = if (aF (gcur G) (rwx u r f)).2.2.2.2 = -1 ∧ (aF (gcur G) (rwx u r f)).1 ≠ 0 then (nr (x - (aF (gcur G) (rwx u r f)).2.2.1 0), grec G (upF (gcur G) (rwx u r f) (fclo (aF (gcur G) (rwx u r f)) x))) else (-2000004, G) := by
      rw [oClose, if_neg (by rw [h1]; decide), if_neg (by rw [h3]; decide), if_neg (by rw [h4]; decide)]
    obtain ⟨un, rn, rfl, hu1, hu, rfl, hr1, hr⟩ := hrA_ok h1 hg.1
    obtain ⟨fn, rfl, hf⟩ := isFc_ok h3
    rw [rwx_nI hu hr hf] at E
    have hrow : (un * 6 + rn) * 2 + fn < 48 := by omega
    have h6 := (hg.1.2.2.2.2.1 _ hrow).1
    refine use_I m_F_rowOf (s_F_close_39 (use_I (m_S_isClosed hrow) (s_F_close_50 ?_)))
    rw [cl (by omega), face_n hs.1 hrow, sees_f hs.1 hrow]
    refine ⟨fun h5 => leaf0 hs ?_, fun h5 => ⟨vpi hrow (by decide), fun h7 => ?_, fun h7 => leaf0 hs ?_⟩⟩
    · rw [bI_ne, decide_eq_true_eq] at h5
      rw [E, if_neg (fun hh => h5 hh.1)]
    · rw [bI_eq, decide_eq_false_iff_not, Classical.not_not] at h5
      have hne : (aF (gcur G) ((un * 6 + rn) * 2 + fn)).1 ≠ 0 := fun e => h7 (by rw [e]; rfl)
      rw [if_pos ⟨h5, hne⟩] at E
      refine use_rec hg hs fun C' p' hs' hf' => s_F_close_80 ?_
      rw [cl (by omega)]
      have hs2 : sees 1 C' (gcur G) := hs'.1
      have e9 : am_u2 C' 7 ((un * 6 + rn) * 2 + fn) x 9 (((un * 6 + rn) * 2 + fn) * 6) = (aF (gcur G) ((un * 6 + rn) * 2 + fn)).2.2.1 0 := by
        rw [am_u2_ne (by decide)]
        exact (face_k (k := 0) hs2 hrow (by omega)).2.1
      refine ⟨vpi hrow (by decide), use_I (m_S_driftOf hrow) (s_F_close_101 (leafR hs' hf' E ?_ (sees_clo hs2 hg.1 hrow) (fr_u2 (by decide))))⟩
      rw [e9, am_u2_at, if_pos ⟨rfl, rfl⟩]
    · rw [E, if_neg]
      intro hh
      have := nI_inj (b := 0) (by omega) (by omega) h7
      exact hh.2 this
  · rw [bI_ne] at h1 h3
    rw [oClose, if_neg (by rw [h1]; decide), if_neg (by rw [h3]; decide), if_pos (bI_eq.mp h)]
theorem m_strike {u r t f v : Int32} (hv : v = 0 ∨ v = 1) (hg : gG G) (hs : seeG C p G) : am_Call (d + 4) 56 [.ref 0, .int u, .int r, .int t, .int f, .int v] (am_w zN C p) (am_Ret zN (fP C (oStrike G u r t f v))) := by
  apply e_F_strike
  apply s_F_strike_0
  refine use_I (m_S_hasRound (C10_4 hs.1 hg.1)) (s_F_strike_9 ?_)
  rw [hrd_A hs.1 hg.1]
  refine ⟨fun h1 => use_I m_F_isFace (s_F_strike_20 ⟨fun h3 => ?_, fun h => leaf0 hs ?_⟩), fun h => leaf0 hs (by rw [oStrike, if_pos (bI_eq.mp h)])⟩
  · rw [bI_ne] at h1 h3
    have E : oStrike G u r t f v = match plc (aF (gcur G) (rwx u r f)) t with
        | none => (-2000001, G)
        | some k => if (aF (gcur G) (rwx u r f)).2.2.2.1 k = v then (-2000005, G) else (nI (skR (upF (gcur G) (rwx u r f) (fstr (aF (gcur G) (rwx u r f)) k v)) u r), grec G (upF (gcur G) (rwx u r f) (fstr (aF (gcur G) (rwx u r f)) k v))) := by
      rw [oStrike, if_neg (by rw [h1]; decide), if_neg (by rw [h3]; decide)]
    obtain ⟨un, rn, rfl, hu1, hu, rfl, hr1, hr⟩ := hrA_ok h1 hg.1
    obtain ⟨fn, rfl, hf⟩ := isFc_ok h3
    have e0 : rwx (nI un) (nI rn) 0 = (un * 6 + rn) * 2 := rwx_nI (f := 0) hu hr (by decide)
    have e1 : rwx (nI un) (nI rn) 1 = (un * 6 + rn) * 2 + 1 := rwx_nI (f := 1) hu hr (by decide)
    rw [rwx_nI hu hr hf] at E
    simp only [skR, e0, e1] at E
    have hrow : (un * 6 + rn) * 2 + fn < 48 := by omega
    have hfk := hg.1.2.2.2.2.1 _ hrow
    refine use_I m_F_rowOf (s_F_strike_33 (use_I (m_S_placeOf hrow (sees_cok hs.1 hg.1 hrow)) (s_F_strike_45 ?_)))
    rw [sees_f hs.1 hrow]
    cases hp : plc (aF (gcur G) ((un * 6 + rn) * 2 + fn)) t with
    | none =>
      rw [hp] at E
      exact ⟨fun h => absurd rfl h, fun _ => leaf0 hs E⟩
    | some k =>
      rw [hp] at E
      have hk := (plc_lt hp).1
      have h6 := hfk.1
      simp only [oI]
      rw [ix6, cl (by omega)]
      have hv2 := vpi (n := ((un * 6 + rn) * 2 + fn) * 6 + k) (N := 288) (by omega) (by decide)
      refine ⟨fun _ => ⟨hv2, ?_⟩, fun h => absurd h (nI_ne (by omega)).1⟩
      rw [(face_k hs.1 hrow hk).2.2]
      refine ⟨fun h => use_rec hg hs fun C' p' hs' hf' => s_F_strike_91 ?_, fun h => leaf0 hs (by rw [E]; simp only [if_pos h])⟩
      simp only [if_neg h] at E
      rw [ix6, cl (by omega), nar01 hv]
      have hs2 : sees 1 C' (gcur G) := hs'.1
      have hs3 := sees_str hs2 hg.1 hrow hk hv
      have hg3 := good_upF hg.1 hu hr1 hf (fok_fstr (j := k) hfk hv)
      refine ⟨hv2, use_I (m_S_struckInRound (by omega) (sees_cok hs3 hg3 (by omega)) (sees_cok hs3 hg3 (by omega))) (s_F_strike_118 (leafR hs' hf' E ?_ hs3 (fr_u2 (by decide))))⟩
      rw [sees_f hs3 (by omega), sees_f hs3 (by omega)]
  · rw [bI_ne] at h1
    rw [oStrike, if_neg (by rw [h1]; decide), if_pos (bI_eq.mp h)]
end
