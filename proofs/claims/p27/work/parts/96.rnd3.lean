/-! isRoundSo, whole -/
section
variable {z d : Nat} {G : aGl} {un rn : Nat} {Post : Option Value → aW → Prop}
/-- one target, from its sets on -/
theorem rnd_one (hg : gG G) (ht : there G un rn) {t : Nat} (h6 : t < 6) {x3 : Int32}
    (next : ∀ C p o11 o12 o13 o14 o15 o16, seeG C p G → rowsF z G un rn C → rAt z d un rn Post 297 x3 (bs (upto (usT G un rn) (t + 1)) 6) (bs (upto (boT G un rn) (t + 1)) 6) (bs (upto (baT G un rn) (t + 1)) 6) [some (.int (nI t + 1)), o11, o12, o13, o14, o15, o16] [] C p)
    {C : Nat → Nat → Int32} {p : Nat → Option Nat} {o11 o12 o13 o14 o15 o16 : Option Value} (hs : seeG C p G) (hr : rowsF z G un rn C) :
    rAt z d un rn Post 297 x3 (bs (upto (usT G un rn) t) 6) (bs (upto (boT G un rn) t) 6) (bs (upto (baT G un rn) t) 6) [some (.int (nI t)), o11, o12, o13, o14, o15, o16] [] C p := by
  have hu := ht.2.2.1
  have hrn := ht.2.2.2.1
  have hf0 := hg.1.2.2.2.2.1 ((un * 6 + rn) * 2) (by omega)
  have hf1 := hg.1.2.2.2.2.1 ((un * 6 + rn) * 2 + 1) (by omega)
  have E := own_sets (t := t) hf0 hf1
  have b := rnd_359 (z := z) (d := d) (Post := Post) (x3 := x3) (o11 := o11) (o12 := o12) (o13 := o13) (o14 := o14) (o15 := o15) (o16 := o16) hg ht h6 next hs hr
  refine s_L_isRoundSo_297 ⟨fun h => absurd ((le5 (a := 6) (b := t) (by omega) (by omega)).mp h) (by omega), fun _ => l307 (f := 0) (by omega) (by omega) (by decide) ?_⟩
  rw [hr.1.1]
  cases e0 : hasS (aF (gcur G) ((un * 6 + rn) * 2)) (aF (gcur G) ((un * 6 + rn) * 2)).1 t with
  | false =>
    rw [E, if_pos e0] at b
    refine s_L_isRoundSo_308 ⟨fun h => absurd ?_ h, fun _ => b⟩
    rw [bs_sh _ h6, e0]
    rfl
  | true =>
    rw [if_neg (by rw [e0]; decide)] at E
    refine s_L_isRoundSo_308 ⟨fun _ => l323 (f := 1) (by omega) (by omega) (by decide) ?_, fun h => ?_⟩
    · rw [hr.2.1]
      cases e1 : hasS (aF (gcur G) ((un * 6 + rn) * 2 + 1)) (aF (gcur G) ((un * 6 + rn) * 2 + 1)).1 t with
      | false =>
        rw [E, if_pos e1] at b
        refine s_L_isRoundSo_324 ⟨fun h => absurd ?_ h, fun _ => b⟩
        rw [bs_sh _ h6, e1]
        rfl
      | true =>
        rw [if_neg (by rw [e1]; decide)] at E
        refine s_L_isRoundSo_324 ⟨fun _ => l339 (f := 0) (by omega) (by omega) (by decide) (s_L_isRoundSo_340 (l343 (f := 1) (by omega) (by omega) (by decide) ?_)), fun h => ?_⟩
        · rw [hr.1.2, hr.2.2]
          refine s_L_isRoundSo_344 ⟨fun h => ?_, fun h => ?_⟩
          · rw [bs_or, bs_sh _ h6] at h
            rw [E, if_neg (by intro h2; apply h; rw [h2]; rfl)] at b
            exact b
          · rw [bs_or, bs_sh _ h6] at h
            rw [E, if_pos (by
              cases e2 : (outS (aF (gcur G) ((un * 6 + rn) * 2)) (aF (gcur G) ((un * 6 + rn) * 2)).1 t || outS (aF (gcur G) ((un * 6 + rn) * 2 + 1)) (aF (gcur G) ((un * 6 + rn) * 2 + 1)).1 t) with
              | true => rfl
              | false =>
                rw [e2] at h
                exact absurd h (by decide))] at b
            exact b
        · rw [bs_sh _ h6, e1] at h
          exact absurd h (by decide)
    · rw [bs_sh _ h6, e0] at h
      exact absurd h (by decide)
/-- all targets, and what is told of the round -/
theorem rnd_t (hg : gG G) (ht : there G un rn) (hP : ∀ C p, seeG C p G → Post (some (.int 1)) (am_w (z + 2) C p)) :
    ∀ m t C p o11 o12 o13 o14 o15 o16, t + m = 6 → seeG C p G → rowsF z G un rn C → rAt z d un rn Post 297 (nI (skn (aF (gcur G) ((un * 6 + rn) * 2)) + skn (aF (gcur G) ((un * 6 + rn) * 2 + 1)))) (bs (upto (usT G un rn) t) 6) (bs (upto (boT G un rn) t) 6) (bs (upto (baT G un rn) t) 6) [some (.int (nI t)), o11, o12, o13, o14, o15, o16] [] C p := by
  intro m
  induction m with
  | zero =>
    intro t C p o11 o12 o13 o14 o15 o16 h6 hs hr
    have e : t = 6 := by omega
    subst e
    rw [upto_6, upto_6, upto_6]
    refine s_L_isRoundSo_297 ⟨fun _ => ⟨fun h => absurd h one1, fun _ => use_F (m_round hg hs) fun C1 p1 hs1 _ => s_L_isRoundSo_590 ⟨fun h => absurd (qR_4 ht).symm h, fun _ => use_F (m_round hg hs1) fun C2 p2 hs2 _ => s_L_isRoundSo_601 ⟨fun h => absurd (qR_5 ht).symm h, fun _ => use_F (m_round hg hs2) fun C3 p3 hs3 _ => s_L_isRoundSo_614 ⟨fun h => absurd (qR_7 ht).symm h, fun _ => ⟨fun h => use_F (m_round hg hs3) fun C4 p4 hs4 _ => s_L_isRoundSo_635 ⟨fun _ => s_L_isRoundSo_645 ⟨fun h => absurd rfl h, fun _ => ⟨Or.inr rfl, hP _ _ hs4⟩⟩, fun h2 => ?_⟩, fun h => use_F (m_round hg hs3) fun C4 p4 hs4 _ => s_L_isRoundSo_635 ⟨fun h2 => ?_, fun _ => s_L_isRoundSo_645 ⟨fun h => absurd rfl h, fun _ => ⟨Or.inr rfl, hP _ _ hs4⟩⟩⟩⟩⟩⟩⟩⟩, fun h => absurd (by decide) h⟩
    · change qRound G (nI un) (nI rn) 6 = -2000005 at h2
      rw [qR_6 ht] at h2
      exact absurd (q6_none.mp h2) h
    · change ¬ qRound G (nI un) (nI rn) 6 = -2000005 at h2
      rw [qR_6 ht] at h2
      exact absurd (q6_none.mpr h) h2
  | succ m ih =>
    intro t C p o11 o12 o13 o14 o15 o16 h6 hs hr
    refine rnd_one hg ht (by omega) (fun C p o11 o12 o13 o14 o15 o16 hs hr => ?_) hs hr
    rw [nI_1]
    exact ih (t + 1) C p _ _ _ _ _ _ (by omega) hs hr
/-- one face, from its head on -/
theorem rnd_f (hg : gG G) (ht : there G un rn) {f : Nat} (hf : f < 2) {x4 x5 x6 a b : Int32} {s0 : Nat} {C : Nat → Nat → Int32} {p : Nat → Option Nat} {o11 o12 o13 o14 o15 o16 : Option Value} (hs : seeG C p G) (hr : rows z C f 0 0) (hr2 : rows z C (1 - f) a b)
    (next : ∀ C p o11 o12 o13 o14 o15 o16, seeG C p G → rows z C f (bs (hasS (aF (gcur G) ((un * 6 + rn) * 2 + f)) (aF (gcur G) ((un * 6 + rn) * 2 + f)).1) 6) (bs (outS (aF (gcur G) ((un * 6 + rn) * 2 + f)) (aF (gcur G) ((un * 6 + rn) * 2 + f)).1) 6) → rows z C (1 - f) a b → rAt z d un rn Post 27 (nI (s0 + skn (aF (gcur G) ((un * 6 + rn) * 2 + f)))) x4 x5 x6 [some (.int (nI (f + 1))), o11, o12, o13, o14, o15, o16] [] C p) :
    rAt z d un rn Post 27 (nI s0) x4 x5 x6 [some (.int (nI f)), o11, o12, o13, o14, o15, o16] [] C p := by
  refine s_L_isRoundSo_27 ⟨fun h => absurd ((le5 (a := 2) (b := f) (by omega) (by omega)).mp h) (by omega), fun _ => use_F (m_round hg hs) fun C1 p1 hs1 hf1 => s_L_isRoundSo_41 (use_F (m_round hg hs1) fun C2 p2 hs2 hf2 => s_L_isRoundSo_53 ?_)⟩
  have hr := rows_fr hf2 (rows_fr hf1 hr)
  have hr2 := rows_fr hf2 (rows_fr hf1 hr2)
  have k := rnd_k (z := z) (d := d) (Post := Post) (x4 := x4) (x5 := x5) (x6 := x6) (a := a) (b := b) (s0 := s0) hg ht hf rfl next (aF (gcur G) ((un * 6 + rn) * 2 + f)).1 0 C2 p2 o14 o15 o16 (Nat.zero_add _) hs2 (by
    rw [show bs (hasS (aF (gcur G) ((un * 6 + rn) * 2 + f)) 0) 6 = 0 from bs_zero.symm, show bs (outS (aF (gcur G) ((un * 6 + rn) * 2 + f)) 0) 6 = 0 from bs_zero.symm]
    exact hr) hr2
  show rAt z d un rn Post 58 (nI s0) x4 x5 x6 [some (.int (nI f)), some (.int (qRound G (nI un) (nI rn) (nI f))), some (.int (qRound G (nI un) (nI rn) (2 + nI f))), some (.int 0), o14, o15, o16] [] C2 p2
  rw [qR_n ht hf, qR_d ht hf]
  exact k
end
variable {zN : Nat}
def rsP (zN : Nat) (G : aGl) : Option Value → aW → Prop := fun r w' => r = some (.int 1) ∧ ∃ C' p', w' = am_w (zN + 2) C' p' ∧ seeG C' p' G
theorem m_L_isRoundSo {d : Nat} {C : Nat → Nat → Int32} {p : Nat → Option Nat} {G : aGl} {un rn : Nat} (hg : gG G) (ht : there G un rn) (hs : seeG C p G) : am_Call (d + 8) 170 [.ref 0, .int (nI un), .int (nI rn)] (am_w zN C p) (rsP zN G) := by
  apply e_L_isRoundSo
  refine s_L_isRoundSo_0 (n15 (s_L_isRoundSo_17 (n20 (s_L_isRoundSo_22 ?_))))
  have hs2 : seeG (am_uR (am_uR C (zN + 74) (fun _ => 0)) (zN + 1 + 74) (fun _ => 0)) p G := seeG_hi (fun x hx => by
    unfold am_uR
    rw [if_neg (by omega), if_neg (by omega)]) hs
  have hr : ∀ f, rows zN (am_uR (am_uR C (zN + 74) (fun _ => 0)) (zN + 1 + 74) (fun _ => 0)) f 0 0 := fun f => by
    unfold rows am_uR
    rw [if_neg (show ¬ zN + 74 = zN + 1 + 74 by omega), if_pos rfl, if_pos rfl]
    exact ⟨rfl, rfl⟩
  generalize am_uR (am_uR C (zN + 74) (fun _ => 0)) (zN + 1 + 74) (fun _ => 0) = C1 at hs2 hr
  have hP : ∀ C p, seeG C p G → (fun r w' => rsP zN G r w' ∧ w'.1 = zN + 76) (some (.int 1)) (am_w (zN + 2) C p) := fun C p hs => ⟨⟨rfl, C, p, rfl, hs⟩, rfl⟩
  refine rnd_f (z := zN) (f := 0) (s0 := 0) hg ht (by decide) hs2 (hr 0) (hr 1) (fun C p o11 o12 o13 o14 o15 o16 hs h0 h1 => ?_)
  refine rnd_f (z := zN) (f := 1) hg ht (by decide) hs h1 h0 (fun C p o11 o12 o13 o14 o15 o16 hs h1 h0 => ?_)
  refine s_L_isRoundSo_27 ⟨fun _ => ?_, fun h => absurd (by decide) h⟩
  have k := rnd_t (z := zN) (d := d) (Post := fun r w' => rsP zN G r w' ∧ w'.1 = zN + 76) hg ht hP 6 0 C p o11 o12 o13 o14 o15 o16 rfl hs ⟨h0, h1⟩
  rw [upto_0, upto_0, upto_0] at k
  rw [Nat.zero_add]
  exact k
