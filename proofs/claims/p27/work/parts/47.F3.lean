variable {zN : Nat}
def rb (lo hi : Int) (x : Int32) : Bool := decide (lo ≤ x.toInt ∧ x.toInt ≤ hi)
theorem rb_rg {lo hi : Int} {x : Int32} (h : rb lo hi x = true) : rg lo hi x := by
  simp only [rb, decide_eq_true_eq] at h
  exact h
theorem rb_t {lo hi : Int} {x : Int32} (h1 : lo ≤ x.toInt) (h2 : x.toInt ≤ hi) : rb lo hi x = true := decide_eq_true ⟨h1, h2⟩
theorem rb_f {lo hi : Int} {x : Int32} (h1 : x.toInt < lo ∨ hi < x.toInt) : rb lo hi x = false := decide_eq_false (by omega)
def upL (A : aS) (x : Int32) : aS := (A.1, x, aD A, aR A, aO A, aQ A, aF A)
def upD (A : aS) (t : Nat) (x : Int32) : aS := (A.1, A.2.1, fun k => if k = t then x else aD A k, aR A, aO A, aQ A, aF A)
def upC (A : aS) (u : Nat) (x y : Int32) : aS := (A.1, A.2.1, aD A, aR A, fun k => if k = u then x else aO A k, fun k => if k = u then y else aQ A k, aF A)
theorem good_upL {A : aS} {x : Int32} (hg : good A) (h : rg 1 600 x) : good (upL A x) := ⟨hg.1, h, hg.2.2⟩
theorem good_upD {A : aS} {t : Nat} {x : Int32} (hg : good A) (h : rg 1 9999 x) : good (upD A t x) := by
  refine ⟨hg.1, hg.2.1, fun k hk => ?_, hg.2.2.2⟩
  show rg 1 9999 (if k = t then x else aD A k)
  split
  · exact h
  · exact hg.2.2.1 k hk
theorem good_upC {A : aS} {u : Nat} {x y : Int32} (hg : good A) (hu : u < A.1) (h : rg 0 99 x) (h2 : rg 0 23 y) : good (upC A u x y) := by
  refine ⟨hg.1, hg.2.1, hg.2.2.1, fun k hk => ⟨(hg.2.2.2.1 k hk).1, ?_, ?_⟩, hg.2.2.2.2.1, fun k hk hn => ?_, hg.2.2.2.2.2.2⟩
  · show rg 0 99 (if k = u then x else aO A k)
    split
    · exact h
    · exact (hg.2.2.2.1 k hk).2.1
  · show rg 0 23 (if k = u then y else aQ A k)
    split
    · exact h2
    · exact (hg.2.2.2.1 k hk).2.2
  · change A.1 ≤ k at hn
    show aR A k = 0 ∧ (if k = u then x else aO A k) = 0 ∧ (if k = u then y else aQ A k) = 0
    rw [if_neg (by omega), if_neg (by omega)]
    exact hg.2.2.2.2.2.1 k hk hn
def oSetLimit (G : aGl) (x : Int32) : Int32 × aGl := if rb 1 600 x = false then (-2000002, G) else if (gcur G).2.1 = x then (-2000005, G) else ((gcur G).2.1, grec G (upL (gcur G) x))
def oCentre (G : aGl) (u x y : Int32) : Int32 × aGl := if hsA (gcur G) u = false then (-2000001, G) else if rb 0 99 x = false ∨ rb 0 23 y = false then (-2000002, G) else if aO (gcur G) (cn u) = x ∧ aQ (gcur G) (cn u) = y then (-2000005, G) else (aO (gcur G) (cn u) * 100 + aQ (gcur G) (cn u), grec G (upC (gcur G) (cn u) x y))
def oSetDistance (G : aGl) (t x : Int32) : Int32 × aGl := if isT t = false then (-2000001, G) else if rb 1 9999 x = false then (-2000002, G) else if aD (gcur G) (cn t) = x then (-2000005, G) else (aD (gcur G) (cn t), grec G (upD (gcur G) (cn t) x))
def gtx (G : aGl) (n : Nat) (ch : Nat → Int32) : aGl := (gcur G, gkep G, gsnp G, ghis G, (n, ch))
def oType (G : aGl) (x : Int32) : Int32 × aGl := if (gtxt G).1 < 60 then (nI ((gtxt G).1 + 1), gtx G ((gtxt G).1 + 1) (fun k => if k = (gtxt G).1 then vp_nar .char x else (gtxt G).2 k)) else (-2000003, G)
def oClear (G : aGl) : Int32 × aGl := (nI (gtxt G).1, gtx G 0 (gtxt G).2)
def oUndo (G : aGl) : Int32 × aGl := if (ghis G).1 = 0 then (-2000005, G) else (nI ((ghis G).1 - 1), ((ghis G).2 ((ghis G).1 - 1), gkep G, gsnp G, ((ghis G).1 - 1, (ghis G).2), gtxt G))
def oKeep (G : aGl) : Int32 × aGl := (nI (gcur G).1, (gcur G, true, gcur G, ghis G, gtxt G))
def oRestore (G : aGl) : Int32 × aGl := if gkep G = false then (-2000005, G) else (nI (gsnp G).1, grec G (gsnp G))
section
variable {d : Nat} {C : Nat → Nat → Int32} {p : Nat → Option Nat} {G : aGl}
theorem c_1 : (1 : Int32).toInt = 1 := by decide
theorem c_600 : (600 : Int32).toInt = 600 := by decide
theorem c_99 : (99 : Int32).toInt = 99 := by decide
theorem c_24 : (24 : Int32).toInt = 24 := by decide
theorem c_9999 : (9999 : Int32).toInt = 9999 := by decide
theorem m_setLimit {x : Int32} (hg : gG G) (hs : seeG C p G) : am_Call (d + 4) 59 [.ref 0, .int x] (am_w zN C p) (am_Ret zN (fP C (oSetLimit G x))) := by
  apply e_F_setLimit
  apply s_F_setLimit_0
  rw [show C 1 1 = (gcur G).2.1 from hs.1.2.1, Int32.lt_iff_toInt_lt, Int32.le_iff_toInt_le, c_1, c_600]
  refine ⟨fun h => leaf0 hs ?_, fun h => ⟨fun h2 => ⟨fun h3 => use_rec hg hs fun C' p' hs' hf => s_F_setLimit_42 ?_, fun h3 => leaf0 hs ?_⟩, fun h2 => leaf0 hs ?_⟩⟩
  · rw [oSetLimit, if_pos (rb_f (by omega))]
  · refine leafR hs' hf (A := upL (gcur G) x) (by rw [oSetLimit, if_neg (by rw [rb_t (by omega) (by omega)]; decide), if_neg h3]) rfl ?_ (fr_u2 (by decide))
    obtain ⟨s0, s1, s2, s3, s4, s5, s6, s7⟩ := hs'.1
    refine ⟨?_, ?_, ?_, ?_, ?_, ?_, ?_, ?_⟩
    · rw [am_u2_at, if_neg (by decide)]; exact s0
    · rw [am_u2_at, if_pos ⟨rfl, rfl⟩]; rfl
    · intro t ht; rw [am_u2_ne (by decide)]; exact s2 t ht
    · intro t ht; rw [am_u2_ne (by decide)]; exact s3 t ht
    · intro t ht; rw [am_u2_ne (by decide)]; exact s4 t ht
    · intro t ht; rw [am_u2_ne (by decide)]; exact s5 t ht
    · intro t ht; rw [am_u2_ne (by decide)]; exact s6 t ht
    · intro t ht; rw [am_u2_ne (by decide)]; exact s7 t ht
  · rw [oSetLimit, if_neg (by rw [rb_t (by omega) (by omega)]; decide), if_pos h3]
  · rw [oSetLimit, if_pos (rb_f (by omega))]
theorem m_setDistance {t x : Int32} (hg : gG G) (hs : seeG C p G) : am_Call (d + 4) 61 [.ref 0, .int t, .int x] (am_w zN C p) (am_Ret zN (fP C (oSetDistance G t x))) := by
  apply e_F_setDistance
  apply s_F_setDistance_0
  refine use_I m_F_isTarget (s_F_setDistance_4 ⟨fun h1 => ?_, fun h1 => leaf0 hs (by rw [oSetDistance, if_pos (bI_eq.mp h1)])⟩)
  rw [bI_ne] at h1
  obtain ⟨tn, rfl, ht⟩ := isT_ok h1
  have E : oSetDistance G (nI tn) x = if rb 1 9999 x = false then (-2000002, G) else if aD (gcur G) tn = x then (-2000005, G) else (aD (gcur G) tn, grec G (upD (gcur G) tn x)) := by
    rw [oSetDistance, if_neg (by rw [h1]; decide), cn_nI (by omega)]
  rw [Int32.lt_iff_toInt_lt, Int32.le_iff_toInt_le, c_1, c_9999, cl (by omega), show C 5 tn = aD (gcur G) tn from hs.1.2.2.1 tn ht]
  have hv := vpi (n := tn) (N := 6) ht (by decide)
  refine ⟨fun h => leaf0 hs ?_, fun h => ⟨fun h2 => ⟨hv, fun h3 => use_rec hg hs fun C' p' hs' hf => s_F_setDistance_54 ?_, fun h3 => leaf0 hs ?_⟩, fun h2 => leaf0 hs ?_⟩⟩
  · rw [E, if_pos (rb_f (by omega))]
  · rw [cl (by omega)]
    refine ⟨hv, leafR hs' hf (A := upD (gcur G) tn x) (by rw [E, if_neg (by rw [rb_t (by omega) (by omega)]; decide), if_neg h3]) rfl ?_ (fr_u2 (by decide))⟩
    obtain ⟨s0, s1, s2, s3, s4, s5, s6, s7⟩ := hs'.1
    refine ⟨?_, ?_, ?_, ?_, ?_, ?_, ?_, ?_⟩
    · rw [am_u2_ne (by decide)]; exact s0
    · rw [am_u2_ne (by decide)]; exact s1
    · intro k hk
      show am_u2 C' 5 tn x 5 k = if k = tn then x else aD (gcur G) k
      rw [am_u2_at]
      by_cases e : k = tn
      · rw [if_pos ⟨rfl, e⟩, if_pos e]
      · rw [if_neg (by omega), if_neg e]
        exact s2 k hk
    · intro t ht; rw [am_u2_ne (by decide)]; exact s3 t ht
    · intro t ht; rw [am_u2_ne (by decide)]; exact s4 t ht
    · intro t ht; rw [am_u2_ne (by decide)]; exact s5 t ht
    · intro t ht; rw [am_u2_ne (by decide)]; exact s6 t ht
    · intro t ht; rw [am_u2_ne (by decide)]; exact s7 t ht
  · rw [E, if_neg (by rw [rb_t (by omega) (by omega)]; decide), if_pos h3]
  · rw [E, if_pos (rb_f (by omega))]
theorem m_centre {u x y : Int32} (hg : gG G) (hs : seeG C p G) : am_Call (d + 4) 60 [.ref 0, .int u, .int x, .int y] (am_w zN C p) (am_Ret zN (fP C (oCentre G u x y))) := by
  apply e_F_centre
  apply s_F_centre_0
  refine use_I m_S_hasSetUp (s_F_centre_8 ?_)
  rw [hsu_A hs.1 hg.1]
  refine ⟨fun h1 => ?_, fun h1 => leaf0 hs (by rw [oCentre, if_pos (bI_eq.mp h1)])⟩
  rw [bI_ne] at h1
  obtain ⟨n, rfl, hn⟩ := hsA_ok h1 hg.1
  have h4 := hg.1.1
  have E : oCentre G (nI n) x y = if rb 0 99 x = false ∨ rb 0 23 y = false then (-2000002, G) else if aO (gcur G) n = x ∧ aQ (gcur G) n = y then (-2000005, G) else (aO (gcur G) n * 100 + aQ (gcur G) n, grec G (upC (gcur G) n x y)) := by
    rw [oCentre, if_neg (by rw [h1]; decide), cn_nI (by omega)]
  rw [Int32.lt_iff_toInt_lt, Int32.lt_iff_toInt_lt, Int32.lt_iff_toInt_lt, Int32.lt_iff_toInt_lt, c_99, c_24, i32_0, cl (by omega), show C 3 n = aO (gcur G) n from hs.1.2.2.2.2.1 n (by omega), show C 4 n = aQ (gcur G) n from hs.1.2.2.2.2.2.1 n (by omega)]
  have hv := vpi (n := n) (N := 4) (by omega) (by decide)
  have fin : 0 ≤ x.toInt → x.toInt ≤ 99 → 0 ≤ y.toInt → y.toInt ≤ 23 → ¬ (aO (gcur G) n = x ∧ aQ (gcur G) n = y) → am_Cv (d + 3) 1 [.ref 21, .ref 1] (am_w zN C p) (fun w1 => am_At (d + 3 + 1) 60 none (am_Ret zN (fP C (oCentre G (nI n) x y))) 85 [some (.ref 0), some (.int (nI n)), some (.int x), some (.int y), some (.int (aO (gcur G) n)), some (.int (aQ (gcur G) n))] [] w1 (0, 0)) := by
    intro a1 a2 a3 a4 hne
    refine use_rec hg hs fun C' p' hs' hf => s_F_centre_85 ?_
    rw [cl (by omega)]
    refine ⟨hv, hv, leafR hs' hf (A := upC (gcur G) n x y) (by rw [E, if_neg (by rw [rb_t a1 a2, rb_t a3 a4]; decide), if_neg hne]) rfl ?_ (fun z hz => by rw [am_u2_ne (by omega), am_u2_ne (by omega)])⟩
    obtain ⟨s0, s1, s2, s3, s4, s5, s6, s7⟩ := hs'.1
    refine ⟨?_, ?_, ?_, ?_, ?_, ?_, ?_, ?_⟩
    · rw [am_u2_ne (by decide), am_u2_ne (by decide)]; exact s0
    · rw [am_u2_ne (by decide), am_u2_ne (by decide)]; exact s1
    · intro t ht; rw [am_u2_ne (by decide), am_u2_ne (by decide)]; exact s2 t ht
    · intro t ht; rw [am_u2_ne (by decide), am_u2_ne (by decide)]; exact s3 t ht
    · intro k hk
      show am_u2 (am_u2 C' 3 n x) 4 n y 3 k = if k = n then x else aO (gcur G) k
      rw [am_u2_ne (by decide), am_u2_at]
      by_cases e : k = n
      · rw [if_pos ⟨rfl, e⟩, if_pos e]
      · rw [if_neg (by omega), if_neg e]
        exact s4 k hk
    · intro k hk
      show am_u2 (am_u2 C' 3 n x) 4 n y 4 k = if k = n then y else aQ (gcur G) k
      rw [am_u2_at]
      by_cases e : k = n
      · rw [if_pos ⟨rfl, e⟩, if_pos e]
      · rw [if_neg (by omega), if_neg e, am_u2_ne (by decide)]
        exact s5 k hk
    · intro t ht; rw [am_u2_ne (by decide), am_u2_ne (by decide)]; exact s6 t ht
    · intro t ht; rw [am_u2_ne (by decide), am_u2_ne (by decide)]; exact s7 t ht
  refine ⟨fun h => leaf0 hs ?_, fun a1 => ⟨fun h => leaf0 hs ?_, fun a2 => ⟨fun h => leaf0 hs ?_, fun a3 => ⟨fun a4 => ⟨hv, hv, fun h => fin (by omega) (by omega) (by omega) (by omega) (fun hh => h hh.1), fun h => ⟨fun h2 => fin (by omega) (by omega) (by omega) (by omega) (fun hh => h2 hh.2), fun h2 => leaf0 hs ?_⟩⟩, fun h => leaf0 hs ?_⟩⟩⟩⟩
  · rw [E, if_pos (Or.inl (rb_f (by omega)))]
  · rw [E, if_pos (Or.inl (rb_f (by omega)))]
  · rw [E, if_pos (Or.inr (rb_f (by omega)))]
  · rw [E, if_neg (by rw [rb_t (by omega) (by omega), rb_t (by omega) (by omega)]; decide), if_pos ⟨h, h2⟩]
  · rw [E, if_pos (Or.inr (rb_f (by omega)))]
theorem m_undo (hg : gG G) (hs : seeG C p G) : am_Call (d + 4) 64 [.ref 0] (am_w zN C p) (am_Ret zN (fP C (oUndo G))) := by
  apply e_F_undo
  apply s_F_undo_0
  rw [hs.2.2.2.1.1]
  have h4 := hg.2.2.1
  refine ⟨fun h => ?_, fun h => leaf0 hs ?_⟩
  · have h' : (ghis G).1 ≠ 0 := fun e => h (by rw [e]; rfl)
    obtain ⟨n, hn⟩ : ∃ n, (ghis G).1 = n + 1 := ⟨(ghis G).1 - 1, by omega⟩
    refine use_back hg hs hn fun C' hs' hf => s_F_undo_24 (leaf (e' := nI n) (by rw [oUndo, if_neg h', hn, Nat.add_sub_cancel]) hs'.2.2.2.1.1 hs' (fun z hz => hf z (by omega) (by omega)))
  · rw [oUndo, if_pos (nI_inj (b := 0) (by omega) (by omega) h)]
end
