/-! the model: point, close -/
theorem mr_cut {s : Nat → Int32} {b : Nat} {f : aFace} (h : mrow s b f) : cut f.1 f.2.1 = f.2.1 ∧ cut f.1 f.2.2.1 = f.2.2.1 ∧ cut f.1 f.2.2.2.1 = f.2.2.2.1 := by
  rw [← h.2.2.1]
  exact ⟨cut_cut, cut_cut, cut_cut⟩
theorem mrow_mk {s : Nat → Int32} {b : Nat} {g : aFace} (h1 : s b = nI g.1) (h6 : g.1 < 5000) (h2 : cut g.1 g.2.1 = g.2.1) (h3 : cut g.1 g.2.2.1 = g.2.2.1) (h4 : cut g.1 g.2.2.2.1 = g.2.2.2.1) (hc : (s (b + 1) = 0 ∧ g.2.2.2.2 = -1) ∨ (s (b + 1) = 1 ∧ s (b + 2) = g.2.2.2.2 ∧ g.2.2.2.2 ≠ -1)) (hk : ∀ k, k < g.1 → s (b + 3 + 3 * k) = g.2.1 k ∧ s (b + 4 + 3 * k) = g.2.2.1 k ∧ s (b + 5 + 3 * k) = g.2.2.2.1 k) : mrow s b g := by
  have n01 : ¬ (0 : Int32) = 1 := by decide
  have n10 : ¬ (1 : Int32) = 0 := by decide
  refine ⟨h1, ?_, ?_, ?_⟩
  · rcases hc with h | h
    · exact Or.inl h.1
    · exact Or.inr h.1
  · unfold fM
    rw [h1, cl h6, cut_congr (g := g.2.1) (fun k hk' => (hk k hk').1), cut_congr (g := g.2.2.1) (fun k hk' => (hk k hk').2.1), cut_congr (g := g.2.2.2.1) (fun k hk' => (hk k hk').2.2), h2, h3, h4]
    have e : (if s (b + 1) = 1 then s (b + 2) else -1) = g.2.2.2.2 := by
      rcases hc with h | h
      · rw [h.1, if_neg n01, h.2]
      · rw [h.1, if_pos rfl, h.2.1]
    rw [e]
  · rcases hc with h | h
    · rw [h.1]
      exact ⟨fun _ => rfl, fun _ => h.2⟩
    · rw [h.1]
      exact ⟨fun e => absurd e h.2.2, fun e => absurd e n10⟩
theorem mr_c {s : Nat → Int32} {b : Nat} {f : aFace} (h : mrow s b f) : (s (b + 1) = 0 ∧ f.2.2.2.2 = -1) ∨ (s (b + 1) = 1 ∧ s (b + 2) = f.2.2.2.2 ∧ f.2.2.2.2 ≠ -1) := by
  rcases h.2.1 with e | e
  · exact Or.inl ⟨e, h.2.2.2.mpr e⟩
  · exact Or.inr ⟨e, mr_x h e, fun hh => by
      have := h.2.2.2.mp hh
      rw [e] at this
      exact absurd this (by decide)⟩
def ptC (C : Nat → Nat → Int32) (b n : Nat) (t rd : Int32) : Nat → Nat → Int32 := am_u2 (am_u2 (am_u2 (am_u2 C 75 (b + 3 + 3 * n) t) 75 (b + 4 + 3 * n) rd) 75 (b + 5 + 3 * n) 0) 75 b (nI (n + 1))
theorem mrow_pt {C : Nat → Nat → Int32} {b : Nat} {f : aFace} {t rd : Int32} (h : mrow (C 75) b f) (h6 : f.1 < 6) : mrow (ptC C b f.1 t rd 75) b (fadd f t rd) := by
  have o : ∀ k, k ≠ b → k ≠ b + 3 + 3 * f.1 → k ≠ b + 4 + 3 * f.1 → k ≠ b + 5 + 3 * f.1 → ptC C b f.1 t rd 75 k = C 75 k := fun k a1 a2 a3 a4 => by
    rw [ptC, am_u2_at, if_neg (by omega), am_u2_at, if_neg (by omega), am_u2_at, if_neg (by omega), am_u2_at, if_neg (by omega)]
  refine mrow_mk ?_ (by simp only [fadd]; omega) cut_cut cut_cut cut_cut ?_ (fun k hk => ?_)
  · rw [ptC, am_u2_at, if_pos ⟨rfl, rfl⟩]; rfl
  · rw [o _ (by omega) (by omega) (by omega) (by omega), o _ (by omega) (by omega) (by omega) (by omega)]
    have hh := mr_c h
    exact hh
  · have hk2 : k < f.1 + 1 := hk
    simp only [fadd]
    rw [cut_lt hk2, cut_lt hk2, cut_lt hk2]
    by_cases e : k = f.1
    · subst e
      rw [if_pos rfl, if_pos rfl, if_pos rfl]
      refine ⟨?_, ?_, ?_⟩
      · rw [ptC, am_u2_at, if_neg (by omega), am_u2_at, if_neg (by omega), am_u2_at, if_neg (by omega), am_u2_at, if_pos ⟨rfl, rfl⟩]
      · rw [ptC, am_u2_at, if_neg (by omega), am_u2_at, if_neg (by omega), am_u2_at, if_pos ⟨rfl, rfl⟩]
      · rw [ptC, am_u2_at, if_neg (by omega), am_u2_at, if_pos ⟨rfl, rfl⟩]
    · rw [if_neg e, if_neg e, if_neg e, o _ (by omega) (by omega) (by omega) (by omega), o _ (by omega) (by omega) (by omega) (by omega), o _ (by omega) (by omega) (by omega) (by omega)]
      exact mr_tg h (by omega)
section
variable {d : Nat} {C : Nat → Nat → Int32} {p : Nat → Option Nat} {G : aGl}
theorem m_M_points {b n : Nat} {t rd : Int32} (hb : b + 21 ≤ 1028) (hn : C 75 b = nI n) (h6 : n < 6) : cI (d + 2) 119 [.ref 74, .int (nI b), .int t, .int rd] C p (nI (n + 1)) (ptC C b n t rd) p := by
  apply e_M_points
  apply s_M_points_0
  rw [nI_p0, cl (by omega), hn]
  refine ⟨vpi (by omega) (by decide), use_I (m_M_placed (w := 0)) (s_M_points_21 ?_)⟩
  rw [cl (by omega), Nat.add_zero]
  refine ⟨vpi (by omega) (by decide), use_I (m_M_placed (w := 1)) (s_M_points_34 ?_)⟩
  rw [cl (by omega), show b + 3 + 3 * n + 1 = b + 4 + 3 * n by omega]
  refine ⟨vpi (by omega) (by decide), use_I (m_M_placed (w := 2)) (s_M_points_47 ?_)⟩
  rw [cl (by omega), show b + 3 + 3 * n + 2 = b + 5 + 3 * n by omega, nI_p0, cl (n := b) (by omega)]
  have e1 : am_u2 (am_u2 (am_u2 C 75 (b + 3 + 3 * n) t) 75 (b + 4 + 3 * n) rd) 75 (b + 5 + 3 * n) 0 75 b = nI n := by
    rw [am_u2_at, if_neg (by omega), am_u2_at, if_neg (by omega), am_u2_at, if_neg (by omega)]
    exact hn
  have hv := vpi (n := b) (N := 1028) (by omega) (by decide)
  rw [e1, nI_1]
  exact ⟨vpi (by omega) (by decide), hv, hv, hv, ret_I' (by rw [am_u2_at, if_pos ⟨rfl, rfl⟩]) rfl rfl⟩
theorem M_point {u r t f rd : Int32} (hg : gG G) (hs : seeMd C G) : am_Call (d + 4) 120 [.ref 74, .int u, .int r, .int t, .int f, .int rd] (am_w C p) (am_Ret (fPm C p (oPoint G u r t f rd))) := by
  apply e_M_point
  apply s_M_point_0
  refine use_I (m_M_isRound hs.1 hg.1) (s_M_point_6 ⟨fun h => lfM0 hs (by rw [oPoint, if_pos (bI_eq.mp h)]), fun h1 => use_I m_M_isTarget (s_M_point_13 ⟨fun h2 => use_I (m_M_in inF) (s_M_point_26 ⟨fun h => lfM0 hs ?_, fun h3 => use_I (m_M_in inR) (s_M_point_37 ⟨fun h4 => ?_, fun h => lfM0 hs ?_⟩)⟩), fun h => lfM0 hs ?_⟩)⟩)
  · rw [bI_ne] at h1 h2
    rw [oPoint, if_neg (by rw [h1]; decide), if_neg (by rw [h2]; decide), if_pos (bI_eq.mp h)]
  · rw [bI_ne] at h1 h2 h3 h4
    have E : oPoint G u r t f rd = if (aF (gcur G) (rwx u r f)).2.2.2.2 = -1 ∧ plc (aF (gcur G) (rwx u r f)) t = none then (nI ((aF (gcur G) (rwx u r f)).1 + 1), grec G (upF (gcur G) (rwx u r f) (fadd (aF (gcur G) (rwx u r f)) t rd))) else (-2000004, G) := by
      rw [oPoint, if_neg (by rw [h1]; decide), if_neg (by rw [h2]; decide), if_neg (by rw [h3]; decide), if_neg (by rw [h4]; decide)]
    obtain ⟨un, rn, rfl, hu1, hu, rfl, hr1, hr⟩ := hrA_ok h1 hg.1
    obtain ⟨tn, rfl, ht⟩ := isT_ok h2
    obtain ⟨fn, rfl, hf⟩ := isFc_ok h3
    rw [show rwx (nI un) (nI rn) (nI fn) = rwn un rn fn from rwx_nI hu hr hf] at E
    have fk := hg.1.2.2.2.2.1 (rwn un rn fn) (by unfold rwn; omega)
    have hb := fbs_lt hu hr hf
    refine use_I m_M_faceAt (s_M_point_51 (use_I (m_M_canPoint hb (hs.1.2.2.2.2 un rn fn hu1 hr1 hf) fk) (s_M_point_55 ⟨fun h5 => ?_, fun h5 => lfM0 hs ?_⟩)))
    · rw [bI_ne, can, decide_eq_true_eq] at h5
      rw [if_pos h5] at E
      have hro := fok_room fk ht h5.2
      refine use_know hg hs fun C' hs' hf' => s_M_point_65 (use_I m_M_faceAt (s_M_point_73 ?_))
      have mr : mrow (C' 75) (fbs un rn fn) (aF (gcur G) (rwn un rn fn)) := hs'.1.2.2.2.2 un rn fn hu1 hr1 hf
      refine use_I (m_M_points hb mr.1 hro) (s_M_point_79 (lfR hs' hf' E rfl (seesM_face hg.1 hs'.1 hu1 hr1 hf (fun k hk => ?_) (mrow_pt mr hro)) (fun z hz => ?_)))
      · rw [ptC, am_u2_at, if_neg (by omega), am_u2_at, if_neg (by omega), am_u2_at, if_neg (by omega), am_u2_at, if_neg (by omega)]
      · rw [ptC, am_u2_ne hz, am_u2_ne hz, am_u2_ne hz, am_u2_ne hz]
    · rw [bI_eq, can, decide_eq_false_iff_not] at h5
      rw [E, if_neg h5]
  · rw [bI_ne] at h1 h2 h3
    rw [oPoint, if_neg (by rw [h1]; decide), if_neg (by rw [h2]; decide), if_neg (by rw [h3]; decide), if_pos (bI_eq.mp h)]
  · rw [bI_ne] at h1
    rw [oPoint, if_neg (by rw [h1]; decide), if_pos (bI_eq.mp h)]
end
