/-! THE LAW'S LOOP -/
theorem use_F {d k : Nat} {av : List Value} {C : Nat → Nat → Int32} {p : Nat → Option Nat} {x : Int32 × aGl} {K : Int32 → aW → Prop} (h : am_Call d k av (am_w C p) (am_Ret (fP C x))) (hk : ∀ C' p', seeG C' p' x.2 → (∀ z, 74 ≤ z → C' z = C z) → K x.1 (am_w C' p')) : am_Ci d k av (am_w C p) K := by
  refine am_Call.mono h ?_
  rintro r w' ⟨C', p', rfl, rfl, h2, h3⟩
  exact hk C' p' h2 h3
theorem use_Mf {d k : Nat} {av : List Value} {C : Nat → Nat → Int32} {p : Nat → Option Nat} {x : Int32 × aGl} {K : Int32 → aW → Prop} (h : am_Call d k av (am_w C p) (am_Ret (fPm C p x))) (hk : ∀ C', seeMd C' x.2 → (∀ z, z < 74 → C' z = C z) → K x.1 (am_w C' p)) : am_Ci d k av (am_w C p) K := by
  refine am_Call.mono h ?_
  rintro r w' ⟨C', p', rfl, rfl, h2, rfl, h3⟩
  exact hk C' h2 h3
theorem q2M {d k : Nat} {av : List Value} {C : Nat → Nat → Int32} {p : Nat → Option Nat} {e : Int32} {G : aGl} (hm : seeMd C G) (h : cI d k av C p e C p) : am_Call d k av (am_w C p) (am_Ret (fPm C p (e, G))) := by
  refine am_Call.mono h ?_
  rintro r w' ⟨C', p', rfl, rfl, rfl, rfl⟩
  exact ⟨_, _, rfl, rfl, hm, rfl, fun _ _ => rfl⟩
theorem seeMd_hi {C C' : Nat → Nat → Int32} {G : aGl} (h : ∀ z, 74 ≤ z → C' z = C z) (hs : seeMd C G) : seeMd C' G := by
  obtain ⟨a, b, c, e, f, g, i⟩ := hs
  refine ⟨by rw [h 75 (by decide)]; exact a, by rw [h 74 (by decide)]; exact b, fun hk => by rw [h 78 (by decide)]; exact c hk, by rw [h 74 (by decide)]; exact e, by rw [h 74 (by decide)]; exact f, by rw [h 79 (by decide)]; exact g, fun j hj => ?_⟩
  rw [h 77 (by decide)]
  exact i j hj
theorem seeG_lo {C C' : Nat → Nat → Int32} {p : Nat → Option Nat} {G : aGl} (h : ∀ z, z < 74 → C' z = C z) (hs : seeG C p G) : seeG C' p G :=
  seeG_congr (fun x hx => h x (by omega)) (by rw [h 63 (by decide)]) (h 64 (by decide)) hs
theorem ch_nar (x : Int32) : vp_nar .char (x.toUInt32 % 65536).toInt32 = (x.toUInt32 % 65536).toInt32 := by
  show ((x.toUInt32 % 65536).toInt32.toUInt32.toUInt16.toUInt32).toInt32 = (x.toUInt32 % 65536).toInt32
  congr 1
  apply UInt32.toNat_inj.mp
  have e : (x.toUInt32 % 65536).toInt32.toUInt32 = x.toUInt32 % 65536 := rfl
  rw [e]
  simp
theorem lt6 {L i : Nat} (hL : L < 5000) (hi : i < 5000) : nI L - 6 < nI i ↔ L < i + 6 := by
  have c6 : (6 : Int32).toInt = 6 := by decide
  rw [Int32.lt_iff_toInt_lt, Int32.toInt_sub, nI_toI hL, nI_toI hi, c6, Int.bmod_eq_of_le (by omega) (by omega)]
  omega
section
variable {L : Nat} {xs : Nat → Int32} {u : Nat × Nat} {Post : Option Value → aW → Prop}
theorem law_step {i : Nat} {C : Nat → Nat → Int32} {p : Nat → Option Nat} {G : aGl} (hL : L ≤ 3072) (hi : i + 6 ≤ L) (hP : ∀ C p, Post (some (.int 1)) (am_w C p)) (hg : gG G) (hs : seeG C p G) (hm : seeMd C G)
    (next : ∀ C p G, gG G → seeG C p G → seeMd C G → am_At 15 164 (some (L, xs)) Post 18 [some (.retAddr 0), some (.ref 0), some (.ref 74), some (.int (nI i + 6))] [] (am_w C p) u) : am_At 15 164 (some (L, xs)) Post 18 [some (.retAddr 0), some (.ref 0), some (.ref 74), some (.int (nI i))] [] (am_w C p) u := by
  have v0 : vp_in (nI i) L := vpi (by omega) (by omega)
  have v1 : vp_in (nI i + 1) L := by
    rw [show nI i + (1 : Int32) = nI (i + 1) from nI_add i 1]
    exact vpi (by omega) (by omega)
  have v2 : vp_in (nI i + 2) L := by
    rw [show nI i + (2 : Int32) = nI (i + 2) from nI_add i 2]
    exact vpi (by omega) (by omega)
  have v3 : vp_in (nI i + 3) L := by
    rw [show nI i + (3 : Int32) = nI (i + 3) from nI_add i 3]
    exact vpi (by omega) (by omega)
  have v4 : vp_in (nI i + 4) L := by
    rw [show nI i + (4 : Int32) = nI (i + 4) from nI_add i 4]
    exact vpi (by omega) (by omega)
  have v5 : vp_in (nI i + 5) L := by
    rw [show nI i + (5 : Int32) = nI (i + 5) from nI_add i 5]
    exact vpi (by omega) (by omega)
  apply s_L_law_18
  refine ⟨fun _ => ⟨Or.inr rfl, hP _ _⟩, fun _ => ⟨v0, ?_⟩⟩
  refine ⟨fun _ => use_F (m_setUp hg hs) (fun C1 p1 hs1 hf1 => s_L_law_148 (use_Mf (M_setUp hg (seeMd_hi hf1 hm)) (fun C2 hm2 hf2 => s_L_law_152 ⟨fun _ => next _ _ _ (gG_oSetUp hg) (seeG_lo hf2 hs1) hm2, fun h => absurd rfl h⟩))), fun _ => ?_⟩
  refine ⟨fun _ => ⟨v1, use_F (m_begin hg hs) (fun C1 p1 hs1 hf1 => s_L_law_166 ⟨v1, use_Mf (M_begin hg (seeMd_hi hf1 hm)) (fun C2 hm2 hf2 => s_L_law_175 ⟨fun _ => next _ _ _ (gG_oBegin hg) (seeG_lo hf2 hs1) hm2, fun h => absurd rfl h⟩)⟩)⟩, fun _ => ?_⟩
  refine ⟨fun _ => ⟨v1, v2, v3, v4, v5, use_F (m_point hg hs) (fun C1 p1 hs1 hf1 => s_L_law_209 ⟨v1, v2, v3, v4, v5, use_Mf (M_point hg (seeMd_hi hf1 hm)) (fun C2 hm2 hf2 => s_L_law_238 ⟨fun _ => next _ _ _ (gG_oPoint hg) (seeG_lo hf2 hs1) hm2, fun h => absurd rfl h⟩)⟩)⟩, fun _ => ?_⟩
  refine ⟨fun _ => ⟨v1, v2, use_F (m_pointAll hg hs) (fun C1 p1 hs1 hf1 => s_L_law_257 ⟨v1, v2, use_Mf (M_pointAll hg (seeMd_hi hf1 hm)) (fun C2 hm2 hf2 => s_L_law_271 ⟨fun _ => next _ _ _ (gG_oPointAll hg) (seeG_lo hf2 hs1) hm2, fun h => absurd rfl h⟩)⟩)⟩, fun _ => ?_⟩
  refine ⟨fun _ => ⟨v1, v2, v3, v4, use_F (m_close hg hs) (fun C1 p1 hs1 hf1 => s_L_law_300 ⟨v1, v2, v3, v4, use_Mf (M_close hg (seeMd_hi hf1 hm)) (fun C2 hm2 hf2 => s_L_law_324 ⟨fun _ => next _ _ _ (gG_oClose hg) (seeG_lo hf2 hs1) hm2, fun h => absurd rfl h⟩)⟩)⟩, fun _ => ?_⟩
  refine ⟨fun _ => ⟨v1, v2, v3, v4, v5, fun hb => use_F (m_strike (Or.inl rfl) hg hs) (fun C1 p1 hs1 hf1 => s_L_law_366 ⟨v1, v2, v3, v4, v5, ⟨fun _ => use_Mf (M_strike (Or.inl rfl) hg (seeMd_hi hf1 hm)) (fun C2 hm2 hf2 => s_L_law_403 ⟨fun _ => next _ _ _ (gG_oStrike (Or.inl rfl) hg) (seeG_lo hf2 hs1) hm2, fun h => absurd rfl h⟩), fun h => absurd hb h⟩⟩), fun hb => use_F (m_strike (Or.inr rfl) hg hs) (fun C1 p1 hs1 hf1 => s_L_law_366 ⟨v1, v2, v3, v4, v5, ⟨fun h => absurd h hb, fun _ => use_Mf (M_strike (Or.inr rfl) hg (seeMd_hi hf1 hm)) (fun C2 hm2 hf2 => s_L_law_403 ⟨fun _ => next _ _ _ (gG_oStrike (Or.inr rfl) hg) (seeG_lo hf2 hs1) hm2, fun h => absurd rfl h⟩)⟩⟩)⟩, fun _ => ?_⟩
  refine ⟨fun _ => ⟨v1, v2, v3, use_F (m_wipe hg hs) (fun C1 p1 hs1 hf1 => s_L_law_427 ⟨v1, v2, v3, use_Mf (M_wipe hg (seeMd_hi hf1 hm)) (fun C2 hm2 hf2 => s_L_law_446 ⟨fun _ => next _ _ _ (gG_oWipe hg) (seeG_lo hf2 hs1) hm2, fun h => absurd rfl h⟩)⟩)⟩, fun _ => ?_⟩
  refine ⟨fun _ => ⟨v1, use_F (m_clean hg hs) (fun C1 p1 hs1 hf1 => s_L_law_460 ⟨v1, use_Mf (M_clean hg (seeMd_hi hf1 hm)) (fun C2 hm2 hf2 => s_L_law_469 ⟨fun _ => next _ _ _ (gG_oClean hg) (seeG_lo hf2 hs1) hm2, fun h => absurd rfl h⟩)⟩)⟩, fun _ => ?_⟩
  refine ⟨fun _ => ⟨v1, use_F (m_setLimit hg hs) (fun C1 p1 hs1 hf1 => s_L_law_483 ⟨v1, use_Mf (M_setLimit hg (seeMd_hi hf1 hm)) (fun C2 hm2 hf2 => s_L_law_492 ⟨fun _ => next _ _ _ (gG_oSetLimit hg) (seeG_lo hf2 hs1) hm2, fun h => absurd rfl h⟩)⟩)⟩, fun _ => ?_⟩
  refine ⟨fun _ => ⟨v1, v2, v3, use_F (m_centre hg hs) (fun C1 p1 hs1 hf1 => s_L_law_516 ⟨v1, v2, v3, use_Mf (M_centre hg (seeMd_hi hf1 hm)) (fun C2 hm2 hf2 => s_L_law_535 ⟨fun _ => next _ _ _ (gG_oCentre hg) (seeG_lo hf2 hs1) hm2, fun h => absurd rfl h⟩)⟩)⟩, fun _ => ?_⟩
  refine ⟨fun _ => ⟨v1, v2, use_F (m_setDistance hg hs) (fun C1 p1 hs1 hf1 => s_L_law_554 ⟨v1, v2, use_Mf (M_setDistance hg (seeMd_hi hf1 hm)) (fun C2 hm2 hf2 => s_L_law_568 ⟨fun _ => next _ _ _ (gG_oSetDistance hg) (seeG_lo hf2 hs1) hm2, fun h => absurd rfl h⟩)⟩)⟩, fun _ => ?_⟩
  refine ⟨fun _ => ⟨v1, use_F (m_type hg hs) (fun C1 p1 hs1 hf1 => s_L_law_583 ⟨v1, use_Mf (M_type (ch_nar _) hg (seeMd_hi hf1 hm)) (fun C2 hm2 hf2 => s_L_law_593 ⟨fun _ => next _ _ _ (gG_oType hg) (seeG_lo hf2 hs1) hm2, fun h => absurd rfl h⟩)⟩)⟩, fun _ => ?_⟩
  refine ⟨fun _ => use_F (m_clearText hs) (fun C1 p1 hs1 hf1 => s_L_law_602 (use_Mf (M_clearText (seeMd_hi hf1 hm)) (fun C2 hm2 hf2 => s_L_law_606 ⟨fun _ => next _ _ _ (gG_oClear hg) (seeG_lo hf2 hs1) hm2, fun h => absurd rfl h⟩))), fun _ => ?_⟩
  refine ⟨fun _ => use_F (m_undo hg hs) (fun C1 p1 hs1 hf1 => s_L_law_615 (use_Mf (M_undo hg (seeMd_hi hf1 hm)) (fun C2 hm2 hf2 => s_L_law_619 ⟨fun _ => next _ _ _ (gG_oUndo hg) (seeG_lo hf2 hs1) hm2, fun h => absurd rfl h⟩))), fun _ => ?_⟩
  refine ⟨fun _ => use_F (m_keep hg hs) (fun C1 p1 hs1 hf1 => s_L_law_628 (use_Mf (M_keep hg (seeMd_hi hf1 hm)) (fun C2 hm2 hf2 => s_L_law_632 ⟨fun _ => next _ _ _ (gG_oKeep hg) (seeG_lo hf2 hs1) hm2, fun h => absurd rfl h⟩))), fun _ => ?_⟩
  refine ⟨fun _ => use_F (m_restore hg hs) (fun C1 p1 hs1 hf1 => s_L_law_641 (use_Mf (M_restore hg (seeMd_hi hf1 hm)) (fun C2 hm2 hf2 => s_L_law_645 ⟨fun _ => next _ _ _ (gG_oRestore hg) (seeG_lo hf2 hs1) hm2, fun h => absurd rfl h⟩))), fun _ => ?_⟩
  refine ⟨fun _ => ⟨v1, v2, v3, v4, v5, use_F (m_pointing hg hs) (fun C1 p1 hs1 hf1 => s_L_law_679 ⟨v1, v2, v3, v4, v5, use_Mf (q2M (seeMd_hi hf1 hm) (M_pointing (seeMd_hi hf1 hm).1 hg.1)) (fun C2 hm2 hf2 => s_L_law_708 ⟨fun _ => next _ _ _ hg (seeG_lo hf2 hs1) hm2, fun h => absurd rfl h⟩)⟩)⟩, fun _ => ?_⟩
  refine ⟨fun _ => ⟨v1, v2, v3, use_F (m_round hg hs) (fun C1 p1 hs1 hf1 => s_L_law_732 ⟨v1, v2, v3, use_Mf (q2M (seeMd_hi hf1 hm) (M_round (seeMd_hi hf1 hm).1 hg.1)) (fun C2 hm2 hf2 => s_L_law_751 ⟨fun _ => next _ _ _ hg (seeG_lo hf2 hs1) hm2, fun h => absurd rfl h⟩)⟩)⟩, fun _ => ?_⟩
  refine ⟨fun _ => ⟨v1, v2, v3, v4, use_F (m_reduced hg hs) (fun C1 p1 hs1 hf1 => s_L_law_780 ⟨v1, v2, v3, v4, use_Mf (q2M (seeMd_hi hf1 hm) (M_reduced (seeMd_hi hf1 hm).1 hg.1)) (fun C2 hm2 hf2 => s_L_law_804 ⟨fun _ => next _ _ _ hg (seeG_lo hf2 hs1) hm2, fun h => absurd rfl h⟩)⟩)⟩, fun _ => ?_⟩
  refine ⟨fun _ => ⟨v1, v2, v3, use_F (m_direction hg hs) (fun C1 p1 hs1 hf1 => s_L_law_828 ⟨v1, v2, v3, use_Mf (q2M (seeMd_hi hf1 hm) (M_direction (seeMd_hi hf1 hm).1 hg.1)) (fun C2 hm2 hf2 => s_L_law_847 ⟨fun _ => next _ _ _ hg (seeG_lo hf2 hs1) hm2, fun h => absurd rfl h⟩)⟩)⟩, fun _ => ?_⟩
  refine ⟨fun _ => ⟨v1, v2, v3, v4, fun hb => use_F (m_angle hg hs) (fun C1 p1 hs1 hf1 => s_L_law_884 ⟨v1, v2, v3, v4, ⟨fun _ => use_Mf (q2M (seeMd_hi hf1 hm) (M_angle (seeMd_hi hf1 hm).1 hg.1)) (fun C2 hm2 hf2 => s_L_law_916 ⟨fun _ => next _ _ _ hg (seeG_lo hf2 hs1) hm2, fun h => absurd rfl h⟩), fun h => absurd hb h⟩⟩), fun hb => use_F (m_angle hg hs) (fun C1 p1 hs1 hf1 => s_L_law_884 ⟨v1, v2, v3, v4, ⟨fun h => absurd h hb, fun _ => use_Mf (q2M (seeMd_hi hf1 hm) (M_angle (seeMd_hi hf1 hm).1 hg.1)) (fun C2 hm2 hf2 => s_L_law_916 ⟨fun _ => next _ _ _ hg (seeG_lo hf2 hs1) hm2, fun h => absurd rfl h⟩)⟩⟩)⟩, fun _ => ?_⟩
  refine ⟨fun _ => ⟨v1, v2, use_F (m_byAngles hg hs) (fun C1 p1 hs1 hf1 => s_L_law_935 ⟨v1, v2, use_Mf (q2M (seeMd_hi hf1 hm) (M_byAngles (seeMd_hi hf1 hm).1 hg.1)) (fun C2 hm2 hf2 => s_L_law_949 ⟨fun _ => next _ _ _ hg (seeG_lo hf2 hs1) hm2, fun h => absurd rfl h⟩)⟩)⟩, fun _ => ?_⟩
  refine ⟨fun _ => ⟨v1, use_F (m_count hg hs) (fun C1 p1 hs1 hf1 => s_L_law_963 ⟨v1, use_Mf (q2M (seeMd_hi hf1 hm) (M_count (seeMd_hi hf1 hm).1 hg.1 (seeMd_hi hf1 hm).2.2.2.1 (seeMd_hi hf1 hm).2.2.2.2.1)) (fun C2 hm2 hf2 => s_L_law_972 ⟨fun _ => next _ _ _ hg (seeG_lo hf2 hs1) hm2, fun h => absurd rfl h⟩)⟩)⟩, fun _ => ?_⟩
  refine ⟨fun _ => ⟨v1, v2, fun hb => use_F (m_centring hg hs) (fun C1 p1 hs1 hf1 => s_L_law_999 ⟨v1, v2, ⟨fun _ => use_Mf (q2M (seeMd_hi hf1 hm) (M_centring (seeMd_hi hf1 hm).1 hg.1)) (fun C2 hm2 hf2 => s_L_law_1021 ⟨fun _ => next _ _ _ hg (seeG_lo hf2 hs1) hm2, fun h => absurd rfl h⟩), fun h => absurd hb h⟩⟩), fun hb => use_F (m_centring hg hs) (fun C1 p1 hs1 hf1 => s_L_law_999 ⟨v1, v2, ⟨fun h => absurd h hb, fun _ => use_Mf (q2M (seeMd_hi hf1 hm) (M_centring (seeMd_hi hf1 hm).1 hg.1)) (fun C2 hm2 hf2 => s_L_law_1021 ⟨fun _ => next _ _ _ hg (seeG_lo hf2 hs1) hm2, fun h => absurd rfl h⟩)⟩⟩)⟩, fun _ => ?_⟩
  exact next C p G hg hs hm
theorem law_loop (hL : L ≤ 3072) (hP : ∀ C p, Post (some (.int 1)) (am_w C p)) : ∀ (n i : Nat) (C : Nat → Nat → Int32) (p : Nat → Option Nat) (G : aGl), i ≤ L → L < i + 6 * (n + 1) → gG G → seeG C p G → seeMd C G → am_At 15 164 (some (L, xs)) Post 18 [some (.retAddr 0), some (.ref 0), some (.ref 74), some (.int (nI i))] [] (am_w C p) u := by
  intro n
  induction n with
  | zero =>
    intro i C p G hi hn hg hs hm
    apply s_L_law_18
    refine ⟨fun _ => ⟨Or.inr rfl, hP _ _⟩, fun h => absurd ?_ h⟩
    exact (lt6 (by omega) (by omega)).mpr (by omega)
  | succ n ih =>
    intro i C p G hi hn hg hs hm
    by_cases h6 : L < i + 6
    · apply s_L_law_18
      refine ⟨fun _ => ⟨Or.inr rfl, hP _ _⟩, fun h => absurd ?_ h⟩
      exact (lt6 (by omega) (by omega)).mpr h6
    · refine law_step hL (by omega) hP hg hs hm (fun C p G hg hs hm => ?_)
      rw [show nI i + (6 : Int32) = nI (i + 6) from nI_add i 6]
      exact ih (i + 6) C p G (by omega) (by omega) hg hs hm
end
