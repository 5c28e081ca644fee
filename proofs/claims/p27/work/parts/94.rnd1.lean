/-! isRoundSo: the pointings of both faces -/
section
variable {z d : Nat} {G : aGl} {un rn : Nat} {Post : Option Value → aW → Prop}
/-- place pc of isRoundSo, behind its own two rows: x3 to x7 -/
def rAt (z d : Nat) (un rn : Nat) (Post : Option Value → aW → Prop) (pc : Nat) (x3 x4 x5 x6 : Int32) (lo : aL) (st : List Value) (C : Nat → Nat → Int32) (p : Nat → Option Nat) : Prop := am_At (d + 7 + 1) 170 none Post pc (some (.ref 0) :: some (.int (nI un)) :: some (.int (nI rn)) :: some (.int x3) :: some (.int x4) :: some (.int x5) :: some (.int x6) :: some (.int 1) :: some (.ref (z + 74)) :: some (.ref (z + 1 + 74)) :: lo) st (am_w (z + 2) C p) (2, 4)
/-- what the two rows hold -/
def rows (z : Nat) (C : Nat → Nat → Int32) (f : Nat) (a b : Int32) : Prop := C (z + 74) f = a ∧ C (z + 1 + 74) f = b
theorem rows_fr {C C' : Nat → Nat → Int32} {f : Nat} {a b : Int32} (h : ∀ x, 74 ≤ x → C' x = C x) (hr : rows z C f a b) : rows z C' f a b := by
  unfold rows at *
  rw [h _ (by omega), h _ (by omega)]
  exact hr
/-- the drift that is told of a face -/
def tdr (F : aFace) : Int32 := if F.2.2.2.2 = -1 then -2000005 else drf F
theorem by_cor {F : aFace} {k : Nat} : cor F k = F.2.2.1 k - fdv (if tdr F = -2000005 then 0 else tdr F * nI k) (nI F.1) := by
  unfold cor tdr
  by_cases h : F.2.2.2.2 = -1
  · rw [if_pos h, if_pos h, if_pos rfl]
    have : fdv 0 (nI F.1) = 0 := by
      unfold fdv
      rw [show (0 : Int32).toInt = 0 from rfl, Int.zero_ediv]
      rfl
    rw [this, Int32.sub_zero]
  · rw [if_neg h, if_neg h]
    have : ¬ drf F = -2000005 := nr_ne5 _
    rw [if_neg this]
theorem rnd_k (hg : gG G) (ht : there G un rn) {f : Nat} (hf : f < 2) {F : aFace} (hF : aF (gcur G) ((un * 6 + rn) * 2 + f) = F) {x4 x5 x6 a b : Int32} {s0 : Nat}
    (next : ∀ C p o11 o12 o13 o14 o15 o16, seeG C p G → rows z C f (bs (hasS F F.1) 6) (bs (outS F F.1) 6) → rows z C (1 - f) a b → rAt z d un rn Post 27 (nI (s0 + skn F)) x4 x5 x6 [some (.int (nI (f + 1))), o11, o12, o13, o14, o15, o16] [] C p) :
    ∀ m k C p o14 o15 o16, k + m = F.1 → seeG C p G → rows z C f (bs (hasS F k) 6) (bs (outS F k) 6) → rows z C (1 - f) a b → rAt z d un rn Post 58 (nI (s0 + cnt F.2.2.2.1 0 k)) x4 x5 x6 [some (.int (nI f)), some (.int (nI F.1)), some (.int (tdr F)), some (.int (nI k)), o14, o15, o16] [] C p := by
  have hfo := hg.1.2.2.2.2.1 ((un * 6 + rn) * 2 + f) (by have := ht.2.2.1; have := ht.2.2.2.1; omega)
  rw [hF] at hfo
  have h6 := hfo.1
  have i0 : (0 : Int32).toInt = 0 := rfl
  intro m
  induction m with
  | zero =>
    intro k C p o14 o15 o16 hk hs hr hr2
    have e : k = F.1 := by omega
    subst e
    have b265 : rAt z d un rn Post 265 (nI (s0 + cnt F.2.2.2.1 0 F.1)) x4 x5 x6 [some (.int (nI f)), some (.int (nI F.1)), some (.int (tdr F)), some (.int (nI F.1)), o14, o15, o16] [] C p := by
      refine s_L_isRoundSo_265 (use_F (m_pointing hg hs) fun C1 p1 hs1 hf1 => s_L_isRoundSo_276 ⟨fun h => absurd ?_ h, fun _ => ?_⟩)
      · exact qP_out ht hf (by rw [hF]; exact Nat.le_refl _) (by omega)
      · rw [nI_1]
        exact next _ _ _ _ _ _ _ _ hs1 (rows_fr hf1 hr) (rows_fr hf1 hr2)
    refine s_L_isRoundSo_58 ⟨fun _ => ⟨fun h => absurd h one1, fun _ => ⟨fun _ => b265, fun hn => ⟨fun h => ?_, fun _ => ⟨fun h => ?_, fun _ => ⟨fun h => ?_, fun _ => b265⟩⟩⟩⟩⟩, fun h => absurd (Int32.le_refl _) h⟩
    all_goals exfalso
    all_goals
      have hx : ¬ F.2.2.2.2 = -1 := by
        intro hx
        apply hn
        unfold tdr
        rw [if_pos hx]
      have hd := nr_rg (F.2.2.2.2 - F.2.2.1 0)
      have et : tdr F = nr (F.2.2.2.2 - F.2.2.1 0) := by
        unfold tdr
        rw [if_neg hx]
        rfl
    · rw [et, Int32.le_iff_toInt_le, show (-648000 : Int32).toInt = -648000 from by decide] at h
      omega
    · rw [et, Int32.lt_iff_toInt_lt, show (648000 : Int32).toInt = 648000 from by decide] at h
      omega
    · rw [Int32.le_iff_toInt_le, nI_toI (by omega), i0] at h
      have := hfo.2.1 hx
      omega
  | succ m ih =>
    intro k C p o14 o15 o16 hk hs hr hr2
    have hk1 : k < F.1 := by omega
    have hk' : k < (aF (gcur G) ((un * 6 + rn) * 2 + f)).1 := by rw [hF]; exact hk1
    have q0 : qPointing G (nI un) (nI rn) (nI f) (nI k) 0 = F.2.1 k := by
      rw [qP_in ht hf hk' (by omega) (by decide), if_pos rfl, hF]
    have q1 : qPointing G (nI un) (nI rn) (nI f) (nI k) 1 = F.2.2.1 k := by
      rw [qP_in ht hf hk' (by omega) (by decide), if_neg (by decide), if_pos rfl, hF]
    have q2 : qPointing G (nI un) (nI rn) (nI f) (nI k) 2 = if F.2.2.2.1 k = 0 then 0 else 1 := by
      rw [qP_in ht hf hk' (by omega) (by decide), if_neg (by decide), if_neg (by decide), if_pos rfl, hF]
    have q3 : qPointing G (nI un) (nI rn) (nI f) (nI k) 3 = cor F k := by
      rw [qP_in ht hf hk' (by omega) (by decide), if_neg (by decide), if_neg (by decide), if_neg (by decide), hF]
    have hn : 0 < (nI F.1).toInt := by rw [nI_toI (by omega)]; omega
    have hn0 : ¬ nI F.1 = 0 := by
      intro e
      rw [e] at hn
      exact absurd hn (by decide)
    refine s_L_isRoundSo_58 ⟨fun h => absurd ((le5 (by omega) (by omega)).mp h) (by omega), fun _ => use_F (m_pointing hg hs) fun C1 p1 hs1 hf1 => ?_⟩
    change seeG C1 p1 G at hs1
    have hr := rows_fr hf1 hr
    have hr2 := rows_fr hf1 hr2
    show rAt z d un rn Post 77 (nI (s0 + cnt F.2.2.2.1 0 k)) x4 x5 x6 [some (.int (nI f)), some (.int (nI F.1)), some (.int (tdr F)), some (.int (nI k)), o14, o15, o16] [.int (qPointing G (nI un) (nI rn) (nI f) (nI k) 0), .int 1] C1 p1
    rw [q0]
    -- the bit, what it is corrected by
    have b121 : ∀ (y q e : Int32), q - e = fdv (if tdr F = -2000005 then 0 else tdr F * nI k) (nI F.1) → rAt z d un rn Post 121 (nI (s0 + cnt F.2.2.2.1 0 k)) x4 x5 x6 [some (.int (nI f)), some (.int (nI F.1)), some (.int (tdr F)), some (.int (nI k)), some (.int ((1 : Int32) <<< (F.2.1 k &&& 31))), some (.int y), o16] [.int e, .int q] C1 p1 := by
      intro y q e he
      refine s_L_isRoundSo_121 ⟨fun h => absurd h one1, fun _ => l133 (by omega) (by omega) hf (s_L_isRoundSo_134 ⟨fun h => absurd ?_ h, fun _ => use_F (m_pointing hg hs1) fun C2 p2 hs2 hf2 => s_L_isRoundSo_151 (use_F (m_pointing hg hs2) fun C3 p3 hs3 hf3 => s_L_isRoundSo_162 ⟨fun h => absurd ?_ h, fun _ => ?_⟩)⟩)⟩
      · rw [hr.1]
        exact has_new hfo hk1
      · show qPointing G (nI un) (nI rn) (nI f) (nI k) 3 = qPointing G (nI un) (nI rn) (nI f) (nI k) 1 - (q - e)
        rw [q3, q1, he]
        exact by_cor
      · change seeG C2 p2 G at hs2
        change seeG C3 p3 G at hs3
        have hr := rows_fr hf3 (rows_fr hf2 hr)
        have hr2 := rows_fr hf3 (rows_fr hf2 hr2)
        refine l180 (by omega) (by omega) hf (s_L_isRoundSo_181 (l184 (by omega) (by omega) hf (s_L_isRoundSo_185 ?_)))
        rw [hr.1, has_step hfo hk1]
        have hs4 : seeG (am_u2 C3 (z + 74) f (bs (hasS F (k + 1)) 6)) p3 G := seeG_hi (fun x hx => am_u2_ne (by omega)) hs3
        have r4 : am_u2 C3 (z + 74) f (bs (hasS F (k + 1)) 6) (z + 74) f = bs (hasS F (k + 1)) 6 := by simp [am_u2]
        have r5 : am_u2 C3 (z + 74) f (bs (hasS F (k + 1)) 6) (z + 1 + 74) f = bs (outS F k) 6 := by
          rw [am_u2_ne (by omega)]
          exact hr.2
        have r6 : rows z (am_u2 C3 (z + 74) f (bs (hasS F (k + 1)) 6)) (1 - f) a b := by
          refine ⟨?_, ?_⟩
          · rw [am_u2_at, if_neg (by omega)]
            exact hr2.1
          · rw [am_u2_ne (by omega)]
            exact hr2.2
        generalize am_u2 C3 (z + 74) f (bs (hasS F (k + 1)) 6) = C4 at hs4 r4 r5 r6
        refine l190 (by omega) (by omega) hf (s_L_isRoundSo_191 (use_F (m_pointing hg hs4) fun C5 p5 hs5 hf5 => ?_))
        change seeG C5 p5 G at hs5
        have last : ∀ w : Int32, w = bs (outS F (k + 1)) 6 → rAt z d un rn Post 213 (nI (s0 + cnt F.2.2.2.1 0 k)) x4 x5 x6 [some (.int (nI f)), some (.int (nI F.1)), some (.int (tdr F)), some (.int (nI k)), some (.int ((1 : Int32) <<< (F.2.1 k &&& 31))), some (.int y), some (.int (q - e))] [.int w, .int (nI f), .ref (z + 1 + 74)] C5 p5 := by
          intro w hw
          refine l213 (by omega) (by omega) hf (s_L_isRoundSo_214 ?_)
          rw [hw]
          have hs6 : seeG (am_u2 C5 (z + 1 + 74) f (bs (outS F (k + 1)) 6)) p5 G := seeG_hi (fun x hx => am_u2_ne (by omega)) hs5
          have hr6 : rows z (am_u2 C5 (z + 1 + 74) f (bs (outS F (k + 1)) 6)) f (bs (hasS F (k + 1)) 6) (bs (outS F (k + 1)) 6) := by
            refine ⟨?_, ?_⟩
            · rw [am_u2_ne (by omega), hf5 _ (by omega)]
              exact r4
            · simp [am_u2]
          have hr7 : rows z (am_u2 C5 (z + 1 + 74) f (bs (outS F (k + 1)) 6)) (1 - f) a b := by
            refine ⟨?_, ?_⟩
            · rw [am_u2_ne (by omega), hf5 _ (by omega)]
              exact r6.1
            · rw [am_u2_at, if_neg (by omega), hf5 _ (by omega)]
              exact r6.2
          generalize am_u2 C5 (z + 1 + 74) f (bs (outS F (k + 1)) 6) = C6 at hs6 hr6 hr7
          refine use_F (m_pointing hg hs6) fun C7 p7 hs7 hf7 => s_L_isRoundSo_226 ?_
          rw [nI_1]
          have ec : nI (s0 + cnt F.2.2.2.1 0 k) + qPointing G (nI un) (nI rn) (nI f) (nI k) 2 = nI (s0 + cnt F.2.2.2.1 0 (k + 1)) := by
            rw [q2, cnt_snoc, Nat.zero_add]
            by_cases h0 : F.2.2.2.1 k = 0
            · rw [if_pos h0, if_pos h0, Int32.add_zero, Nat.add_zero]
            · rw [if_neg h0, if_neg h0, nI_1, Nat.add_assoc]
          show rAt z d un rn Post 58 (nI (s0 + cnt F.2.2.2.1 0 k) + qPointing G (nI un) (nI rn) (nI f) (nI k) 2) x4 x5 x6 [some (.int (nI f)), some (.int (nI F.1)), some (.int (tdr F)), some (.int (nI (k + 1))), _, _, _] [] C7 p7
          rw [ec]
          exact ih (k + 1) C7 p7 _ _ _ (by omega) hs7 (rows_fr hf7 hr6) (rows_fr hf7 hr7)
        refine s_L_isRoundSo_202 ⟨fun h => last _ ?_, fun h => last _ ?_⟩
        · change ¬ qPointing G (nI un) (nI rn) (nI f) (nI k) 2 = 1 at h
          rw [q2] at h
          have h0 : F.2.2.2.1 k = 0 := by
            apply Classical.byContradiction
            intro h0
            rw [if_neg h0] at h
            exact h rfl
          rw [r5, Int32.or_zero]
          exact out_no h0
        · change qPointing G (nI un) (nI rn) (nI f) (nI k) 2 = 1 at h
          rw [q2] at h
          have h0 : ¬ F.2.2.2.1 k = 0 := by
            intro h0
            rw [if_pos h0] at h
            exact absurd h (by decide)
          rw [r5]
          exact out_yes hfo hk1 h0
    have b96 : ∀ y, y = (if tdr F = -2000005 then 0 else tdr F * nI k) → rAt z d un rn Post 96 (nI (s0 + cnt F.2.2.2.1 0 k)) x4 x5 x6 [some (.int (nI f)), some (.int (nI F.1)), some (.int (tdr F)), some (.int (nI k)), some (.int ((1 : Int32) <<< (F.2.1 k &&& 31))), o15, o16] [.int y] C1 p1 := by
      intro y hy
      obtain ⟨g1, g2, g3⟩ := less_ok (y := y) hn
      refine s_L_isRoundSo_96 ⟨hn0, fun h => s_L_isRoundSo_120 (b121 y _ _ ?_), fun h => ⟨hn0, fun h2 => s_L_isRoundSo_120 (b121 y _ _ ?_), fun h2 => b121 y _ _ ?_⟩⟩
      · rw [Int32.sub_zero, g1 h, hy]
      · rw [Int32.sub_zero, g2 h h2, hy]
      · rw [g3 h h2, hy]
    exact s_L_isRoundSo_77 ⟨fun h => b96 _ (by rw [if_neg h]), fun h => b96 _ (by rw [if_pos h])⟩
end
