/-! the model: close, strike -/
section
variable {d : Nat} {C : Nat → Nat → Int32} {p : Nat → Option Nat} {G : aGl}
theorem M_close {u r f x : Int32} (hg : gG G) (hs : seeMd C G) : am_Call (d + 4) 121 [.ref 74, .int u, .int r, .int f, .int x] (am_w C p) (am_Ret (fPm C p (oClose G u r f x))) := by
  apply e_M_close
  apply s_M_close_0
  refine use_I (m_M_isRound hs.1 hg.1) (s_M_close_6 ⟨fun h1 => use_I (m_M_in inF) (s_M_close_18 ⟨fun h => lfM0 hs ?_, fun h3 => use_I (m_M_in inR) (s_M_close_29 ⟨fun h4 => ?_, fun h => lfM0 hs ?_⟩)⟩), fun h => lfM0 hs (by rw [oClose, if_pos (bI_eq.mp h)])⟩)
  · rw [bI_ne] at h1
    rw [oClose, if_neg (by rw [h1]; decide), if_pos (bI_eq.mp h)]
  · rw [bI_ne] at h1 h3 h4
    have E : oClose G u r f x = if (aF (gcur G) (rwx u r f)).2.2.2.2 = -1 ∧ (aF (gcur G) (rwx u r f)).1 ≠ 0 then (nr (x - (aF (gcur G) (rwx u r f)).2.2.1 0), grec G (upF (gcur G) (rwx u r f) (fclo (aF (gcur G) (rwx u r f)) x))) else (-2000004, G) := by
      rw [oClose, if_neg (by rw [h1]; decide), if_neg (by rw [h3]; decide), if_neg (by rw [h4]; decide)]
    obtain ⟨un, rn, rfl, hu1, hu, rfl, hr1, hr⟩ := hrA_ok h1 hg.1
    obtain ⟨fn, rfl, hf⟩ := isFc_ok h3
    rw [show rwx (nI un) (nI rn) (nI fn) = rwn un rn fn from rwx_nI hu hr hf] at E
    have fk := hg.1.2.2.2.2.1 (rwn un rn fn) (by unfold rwn; omega)
    have hb := fbs_lt hu hr hf
    have h6 := fk.1
    have mr0 := hs.1.2.2.2.2 un rn fn hu1 hr1 hf
    have hxn : x ≠ -1 := by
      intro e
      rw [e] at h4
      exact absurd h4 (by decide)
    refine use_I m_M_faceAt (s_M_close_41 ?_)
    generalize eB : fbs un rn fn = B at *
    rw [nI_1, nI_p0, cl (n := B + 1) (by omega), cl (n := B) (by omega), mr0.1]
    refine ⟨vpi (by omega) (by decide), fun h => lfM0 hs ?_, fun h => ⟨vpi (by omega) (by decide), fun h5 => ?_, fun h5 => lfM0 hs ?_⟩⟩
    · rw [E, if_neg]
      intro hh
      have := mr0.2.2.2.mp hh.1
      rw [h] at this
      exact absurd this (by decide)
    · have hc := mr0.2.2.2.mpr (mr0.2.1.resolve_right h)
      have hne : (aF (gcur G) (rwn un rn fn)).1 ≠ 0 := fun e => h5 (by rw [e]; rfl)
      rw [if_pos ⟨hc, hne⟩] at E
      refine use_know hg hs fun C' hs' hf' => s_M_close_75 ?_
      have mr : mrow (C' 75) (fbs un rn fn) (aF (gcur G) (rwn un rn fn)) := hs'.1.2.2.2.2 un rn fn hu1 hr1 hf
      rw [eB] at mr
      rw [nI_1, nI_p2, cl (n := B + 1) (by omega), cl (n := B + 2) (by omega)]
      have o : ∀ k, k ≠ B + 1 → k ≠ B + 2 → am_u2 (am_u2 C' 75 (B + 1) 1) 75 (B + 2) x 75 k = C' 75 k := fun k a1 a2 => by rw [am_u2_at, if_neg (by omega), am_u2_at, if_neg (by omega)]
      have o1 : am_u2 (am_u2 C' 75 (B + 1) 1) 75 (B + 2) x 75 (B + 1) = 1 := by rw [am_u2_at, if_neg (by omega), am_u2_at, if_pos ⟨rfl, rfl⟩]
      have o2 : am_u2 (am_u2 C' 75 (B + 1) 1) 75 (B + 2) x 75 (B + 2) = x := by rw [am_u2_at, if_pos ⟨rfl, rfl⟩]
      obtain ⟨c1, c2, c3⟩ := mr_cut mr
      have mr2 : mrow (am_u2 (am_u2 C' 75 (B + 1) 1) 75 (B + 2) x 75) B (fclo (aF (gcur G) (rwn un rn fn)) x) := by
        refine mrow_mk ?_ (by show (aF (gcur G) (rwn un rn fn)).1 < 5000; omega) c1 c2 c3 (Or.inr ⟨o1, o2, hxn⟩) (fun k hk => ?_)
        · rw [o B (by omega) (by omega)]
          exact mr.1
        · have hk2 : k < (aF (gcur G) (rwn un rn fn)).1 := hk
          rw [o _ (by omega) (by omega), o _ (by omega) (by omega), o _ (by omega) (by omega)]
          have hh := mr_tg mr hk2
          exact hh
      refine ⟨vpi (by omega) (by decide), vpi (by omega) (by decide), use_I (m_M_drift hb mr2 o1 (by show 0 < (aF (gcur G) (rwn un rn fn)).1; omega)) (s_M_close_102 (lfR hs' hf' E rfl (seesM_face hg.1 hs'.1 hu1 hr1 hf (fun k hk => o k (by omega) (by omega)) (by rw [eB]; exact mr2)) (fun z hz => by rw [am_u2_ne hz, am_u2_ne hz])))⟩
    · rw [E, if_neg]
      intro hh
      exact hh.2 (nI_inj (b := 0) (by omega) (by decide) h5)
  · rw [bI_ne] at h1 h3
    rw [oClose, if_neg (by rw [h1]; decide), if_neg (by rw [h3]; decide), if_pos (bI_eq.mp h)]
theorem mrow_str {C : Nat → Nat → Int32} {b j : Nat} {f : aFace} {v : Int32} (h : mrow (C 75) b f) (h6 : f.1 ≤ 6) (hj : j < f.1) : mrow (am_u2 C 75 (b + 5 + 3 * j) v 75) b (fstr f j v) := by
  have o : ∀ k, k ≠ b + 5 + 3 * j → am_u2 C 75 (b + 5 + 3 * j) v 75 k = C 75 k := fun k a1 => by rw [am_u2_at, if_neg (by omega)]
  obtain ⟨c1, c2, c3⟩ := mr_cut h
  refine mrow_mk ?_ (by show f.1 < 5000; omega) c1 c2 cut_cut ?_ (fun k hk => ?_)
  · rw [o b (by omega)]
    exact h.1
  · rw [o _ (by omega), o _ (by omega)]
    have hh := mr_c h
    exact hh
  · have hk2 : k < f.1 := hk
    obtain ⟨t1, t2, t3⟩ := mr_tg h hk2
    rw [o _ (by omega), o _ (by omega)]
    refine ⟨t1, t2, ?_⟩
    simp only [fstr]
    rw [cut_lt hk2]
    by_cases e : k = j
    · subst e
      rw [if_pos rfl, am_u2_at, if_pos ⟨rfl, rfl⟩]
    · rw [if_neg e, o _ (by omega)]
      exact t3
theorem M_strike {u r t f v : Int32} (hv : v = 0 ∨ v = 1) (hg : gG G) (hs : seeMd C G) : am_Call (d + 4) 123 [.ref 74, .int u, .int r, .int t, .int f, .int v] (am_w C p) (am_Ret (fPm C p (oStrike G u r t f v))) := by
  apply e_M_strike
  apply s_M_strike_0
  refine use_I (m_M_isRound hs.1 hg.1) (s_M_strike_6 ⟨fun h1 => use_I (m_M_in inF) (s_M_strike_19 ⟨fun h3 => ?_, fun h => lfM0 hs ?_⟩), fun h => lfM0 hs (by rw [oStrike, if_pos (bI_eq.mp h)])⟩)
  · rw [bI_ne] at h1 h3
    have E : oStrike G u r t f v = match plc (aF (gcur G) (rwx u r f)) t with
        | none => (-2000001, G)
        | some k => if (aF (gcur G) (rwx u r f)).2.2.2.1 k = v then (-2000005, G) else (nI (skR (upF (gcur G) (rwx u r f) (fstr (aF (gcur G) (rwx u r f)) k v)) u r), grec G (upF (gcur G) (rwx u r f) (fstr (aF (gcur G) (rwx u r f)) k v))) := by
      rw [oStrike, if_neg (by rw [h1]; decide), if_neg (by rw [h3]; decide)]
      cases plc (aF (gcur G) (rwx u r f)) t <;> rfl
    obtain ⟨un, rn, rfl, hu1, hu, rfl, hr1, hr⟩ := hrA_ok h1 hg.1
    obtain ⟨fn, rfl, hf⟩ := isFc_ok h3
    have e0 : rwx (nI un) (nI rn) 0 = rwn un rn 0 := rwx_nI (f := 0) hu hr (by decide)
    have e1 : rwx (nI un) (nI rn) 1 = rwn un rn 1 := rwx_nI (f := 1) hu hr (by decide)
    rw [show rwx (nI un) (nI rn) (nI fn) = rwn un rn fn from rwx_nI hu hr hf] at E
    simp only [skR, e0, e1] at E
    have fk := hg.1.2.2.2.2.1 (rwn un rn fn) (by unfold rwn; omega)
    have hb := fbs_lt hu hr hf
    have h6 := fk.1
    have mr0 := hs.1.2.2.2.2 un rn fn hu1 hr1 hf
    refine use_I m_M_faceAt (s_M_strike_32 (use_I (m_M_placeOf hb mr0 fk) (s_M_strike_41 ?_)))
    cases hp : plc (aF (gcur G) (rwn un rn fn)) t with
    | none =>
      rw [hp] at E
      exact ⟨fun h => absurd rfl h, fun _ => lfM0 hs E⟩
    | some k =>
      rw [hp] at E
      have hk := (plc_lt hp).1
      simp only [oI]
      refine ⟨fun _ => use_I (m_M_placed (w := 2)) (s_M_strike_65 ?_), fun h => absurd h (nI_ne (by omega)).2⟩
      rw [show fbs un rn fn + 3 + 3 * k + 2 = fbs un rn fn + 5 + 3 * k by omega, cl (by omega), (mr_tg mr0 hk).2.2]
      have go : am_At (d + 4) 123 none (am_Ret (fPm C p (oStrike G (nI un) (nI rn) t (nI fn) v))) 75 [some (.ref 74), some (.int (nI un)), some (.int (nI rn)), some (.int t), some (.int (nI fn)), some (.int v), some (.int (nI (fbs un rn fn))), some (.int (nI k))] [.int ((aF (gcur G) (rwn un rn fn)).2.2.2.1 k)] (am_w C p) (0, 0) := by
        apply s_M_strike_75
        refine ⟨fun h => use_know hg hs fun C' hs' hf' => s_M_strike_87 (use_I (m_M_placed (w := 2)) (s_M_strike_99 ?_)), fun h => lfM0 hs (by rw [E]; simp only [if_pos h])⟩
        simp only [if_neg h] at E
        have mr : mrow (C' 75) (fbs un rn fn) (aF (gcur G) (rwn un rn fn)) := hs'.1.2.2.2.2 un rn fn hu1 hr1 hf
        rw [show fbs un rn fn + 3 + 3 * k + 2 = fbs un rn fn + 5 + 3 * k by omega, cl (by omega)]
        have hA : seesM (am_u2 C' 75 (fbs un rn fn + 5 + 3 * k) v 75) (upF (gcur G) (rwn un rn fn) (fstr (aF (gcur G) (rwn un rn fn)) k v)) := seesM_face hg.1 hs'.1 hu1 hr1 hf (fun j hj => by rw [am_u2_at, if_neg (by omega)]) (mrow_str mr h6 hk)
        have hgA : good (upF (gcur G) (rwn un rn fn) (fstr (aF (gcur G) (rwn un rn fn)) k v)) := good_upF hg.1 hu hr1 hf (fok_fstr fk hv)
        have fin : am_Ci (d + 3) 122 [.ref 74, .int (nI un), .int (nI rn)] (am_w (am_u2 C' 75 (fbs un rn fn + 5 + 3 * k) v) p) (fun y w1 => am_At (d + 3 + 1) 123 none (am_Ret (fPm C p (oStrike G (nI un) (nI rn) t (nI fn) v))) 116 [some (.ref 74), some (.int (nI un)), some (.int (nI rn)), some (.int t), some (.int (nI fn)), some (.int v), some (.int (nI (fbs un rn fn))), some (.int (nI k))] [.int y] w1 (0, 0)) :=
          use_I (m_M_struckOf (d := d) hA hgA hu1 hr1) (s_M_strike_116 (lfR hs' hf' E rfl hA (fun z hz => am_u2_ne hz)))
        refine ⟨fun h0 => ⟨vpi (by omega) (by decide), ?_⟩, fun h0 => ⟨vpi (by omega) (by decide), ?_⟩⟩
        · subst h0
          exact fin
        · have h01 := hv.resolve_left h0
          subst h01
          exact fin
      rcases fk.2.2.1 k hk with e | e
      · rw [e] at go ⊢
        exact ⟨vpi (by omega) (by decide), fun _ => go, fun h => absurd h (by decide)⟩
      · rw [e] at go ⊢
        exact ⟨vpi (by omega) (by decide), fun h => absurd rfl h, fun _ => go⟩
  · rw [bI_ne] at h1
    rw [oStrike, if_neg (by rw [h1]; decide), if_pos (bI_eq.mp h)]
end
