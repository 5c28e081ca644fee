/-! the model: go, pointAll -/
theorem pall_no {L : Nat} {ch : Nat → Int32} {n a b : Nat} (h : ppt L ch a = (b, none)) : pall L ch (n + 1) a = (b, none) := by
  rw [pall, h]
theorem pall_end {L : Nat} {ch : Nat → Int32} {n a : Nat} {x : Nat × Nat × Nat} (h : ppt L ch a = (L, some x)) : pall L ch (n + 1) a = (L, some [x]) := by
  rw [pall, h]
  simp only [if_true]
theorem pall_s0 {L : Nat} {ch : Nat → Int32} {n a b : Nat} {x : Nat × Nat × Nat} (h : ppt L ch a = (b, some x)) (hb : b ≠ L) (hs : skp L ch 59 b = false) : pall L ch (n + 1) a = (b, none) := by
  rw [pall, h]
  simp only [if_neg hb, hs]
  rfl
theorem pall_s1 {L : Nat} {ch : Nat → Int32} {n a b : Nat} {x : Nat × Nat × Nat} (h : ppt L ch a = (b, some x)) (hb : b ≠ L) (hs : skp L ch 59 b = true) : pall L ch (n + 1) a = ((pall L ch n (b + 1)).1, (pall L ch n (b + 1)).2.map (x :: ·)) := by
  rw [pall, h]
  simp only [if_neg hb, hs, if_true]
  rcases pall L ch n (b + 1) with ⟨c, _ | l⟩ <;> rfl
theorem pall_lt {L : Nat} {ch : Nat → Int32} {a b : Nat} {x : Nat × Nat × Nat} (ha : a ≤ L) (h : ppt L ch a = (b, some x)) : b ≤ L ∧ a + 7 ≤ b ∧ x.1 < 6 ∧ x.2.1 < 2 := by
  obtain ⟨p1, p2⟩ := ppt_in (ch := ch) ha
  rw [h] at p1 p2
  obtain ⟨q1, q2, q3, q4⟩ := p2 x rfl
  exact ⟨p1, q4, q1, q2⟩
theorem am_u2_same {C : Nat → Nat → Int32} {i k : Nat} {x : Int32} (h : C i k = x) : am_u2 C i k x = C := by
  funext a b
  rw [am_u2_at]
  by_cases e : a = i ∧ b = k
  · rw [if_pos e, e.1, e.2, h]
  · rw [if_neg e]
section
variable {d : Nat} {C : Nat → Nat → Int32} {p : Nat → Option Nat} {L : Nat}
theorem tC_start : am_u2 (am_u2 (am_u2 C 74 8 0) 74 9 0) 74 10 0 = tC (am_u2 C 74 10 0) 0 false := by
  funext y i
  simp only [tC, am_u2_at]
  by_cases h8 : y = 74 ∧ i = 8
  · obtain ⟨rfl, rfl⟩ := h8
    simp
    rfl
  · by_cases h9 : y = 74 ∧ i = 9
    · obtain ⟨rfl, rfl⟩ := h9
      simp
      rfl
    · simp only [if_neg h8, if_neg h9]
/-- from behind the last pointing to the end -/
theorem go_end {Post : Option Value → aW → Prop} {D : Nat → Nat → Int32} {x1 x2 x3 x4 x5 x6 x7 x8 x9 x10 x11 x12 : Int32} {o13 o14 : Option Value} (h : Post (some (.int x4)) (am_w D p)) : am_At (d + 4) 136 none Post 258 [some (.ref 74), some (.int x1), some (.int x2), some (.int x3), some (.int x4), some (.int x5), some (.int x6), some (.int x7), some (.int x8), some (.int x9), some (.int x10), some (.int x11), some (.int x12), o13, o14] [] (am_w D p) (0, 0) :=
  s_M_go_258 (s_M_go_259 ⟨fun _ => s_M_go_21 ⟨fun _ => h, fun q => absurd rfl q⟩, fun q => absurd rfl q⟩)
theorem m_M_go0 {x1 x2 : Int32} (hL : C 74 7 = nI L) (h60 : L ≤ 60) : am_Call (d + 4) 136 [.ref 74, .int x1, .int x2, .int 0] (am_w C p) (am_Ret fun r C' p' => ∃ e, r = some (.int e) ∧ p' = p ∧ C' = tC (am_u2 C 74 10 0) (pall L (C 79) 8 0).1 (pall L (C 79) 8 0).2.isNone) := by
  have hL0 : am_u2 C 74 10 0 74 7 = nI L := by rw [am_u2_at, if_neg (by decide)]; exact hL
  have h79 : am_u2 C 74 10 0 79 = C 79 := am_u2_ne (by decide)
  have h10 : am_u2 C 74 10 0 74 10 = 0 := by rw [am_u2_at, if_pos ⟨rfl, rfl⟩]
  have hst := tC_start (C := C)
  generalize am_u2 C 74 10 0 = C0 at *
  have loop : ∀ (n i a : Nat) (E : Nat × Bool) (x4 : Int32) (o6 o7 o8 o9 o10 o11 o12 o13 o14 : Option Value), i + n = 8 → 8 * i ≤ a → a ≤ L → (pall L (C0 79) n a).1 = E.1 → (pall L (C0 79) n a).2.isNone = E.2 → am_At (d + 4) 136 none (am_Ret fun r C' p' => ∃ e, r = some (.int e) ∧ p' = p ∧ C' = tC C0 E.1 E.2) 21 [some (.ref 74), some (.int x1), some (.int x2), some (.int 0), some (.int x4), some (.int 1), o6, o7, o8, o9, o10, o11, o12, o13, o14] [] (am_w (tC C0 a false) p) (0, 0) := by
    intro n
    induction n with
    | zero =>
      intro i a E x4 o6 o7 o8 o9 o10 o11 o12 o13 o14 hi ha haL _ _
      omega
    | succ n ih =>
      intro i a E x4 o6 o7 o8 o9 o10 o11 o12 o13 o14 hi ha haL hE1 hE2
      refine r21 hL0 h60 haL (fun b hb hbL x6 x7 x8 x9 x10 x11 y0 o12 o13 o14 => ?_) (fun b t f r hb x8 x9 x10 x11 y0 o12 o13 o14 hr => ?_)
      · rw [pall_no hb] at hE1 hE2
        apply s_M_go_140
        refine ⟨fun _ => s_M_go_226 ?_, fun q => absurd rfl q⟩
        rw [tC_9]
        refine ⟨fun _ => go_end ⟨_, p, rfl, _, rfl, rfl, ?_⟩, fun q => absurd q (by decide)⟩
        rw [← hE1, ← hE2]
        rfl
      · obtain ⟨hbL, hba, -, -⟩ := pall_lt haL hb
        apply s_M_go_140
        refine ⟨fun _ => s_M_go_226 ?_, fun q => absurd rfl q⟩
        rw [tC_9, tC_10, h10, tC_7, hL0, tC_8, le5 (by omega) (by omega)]
        refine ⟨fun q => absurd rfl q, fun _ => ⟨fun q => absurd rfl q, fun _ => ⟨fun hLb => ?_, fun hLb => s_M_go_259 ⟨fun q => absurd q (by decide), fun _ => ?_⟩⟩⟩⟩
        · have eb : b = L := by omega
          subst eb
          rw [pall_end hb] at hE1 hE2
          refine go_end ⟨_, p, rfl, _, rfl, rfl, ?_⟩
          rw [← hE1, ← hE2]
          rfl
        · have hne : b ≠ L := by omega
          cases hs : skp L (C0 79) 59 b with
          | false =>
            rw [pall_s0 hb hne hs] at hE1 hE2
            refine use_I (m_M_sign_no (by decide) hL0 h60 hbL (by rw [okc_skp]; exact hs)) (s_M_go_274 ?_)
            rw [tC_9]
            refine ⟨fun _ => s_M_go_21 ⟨fun _ => ⟨_, p, rfl, _, rfl, rfl, ?_⟩, fun q => absurd rfl q⟩, fun q => absurd q (by decide)⟩
            rw [← hE1, ← hE2]
            rfl
          | true =>
            rw [pall_s1 hb hne hs] at hE1 hE2
            refine use_I (m_M_sign_ok (by decide) hL0 h60 hbL (by rw [okc_skp]; exact hs)) (s_M_go_274 ?_)
            rw [tC_9]
            refine ⟨fun q => absurd rfl q, fun _ => ih (i + 1) (b + 1) E _ _ _ _ _ _ _ _ _ _ (by omega) (by omega) (by omega) hE1 ?_⟩
            rw [← hE2]
            cases (pall L (C0 79) n (b + 1)).2 <;> rfl
  apply e_M_go
  apply s_M_go_0
  refine ⟨Or.inl rfl, Or.inl rfl, ?_⟩
  rw [← h79, hst]
  exact loop 8 0 0 (_, _) _ _ _ _ _ _ _ _ _ _ (by decide) (by decide) (by omega) rfl rfl
theorem tC_pt {b n a : Nat} {t rd : Int32} {w : Bool} : ptC (tC C a w) b n t rd = tC (ptC C b n t rd) a w := by
  funext y i
  by_cases hy : y = 74
  · subst hy
    simp [ptC, tC, am_u2_at]
  · simp [ptC, tC, am_u2_at, hy]
/-- what go leaves as it was -/
def agG (D C : Nat → Nat → Int32) : Prop := ∀ y i, y ≠ 75 → ¬ (y = 74 ∧ 8 ≤ i ∧ i ≤ 10) → D y i = C y i
theorem agG_t {D : Nat → Nat → Int32} {a : Nat} {w : Bool} (h : agG D C) : agG (tC D a w) C := fun y i h1 h2 => by
  rw [tC_o (by omega)]
  exact h y i h1 h2
theorem agG_s {D : Nat → Nat → Int32} {x : Int32} (h : agG D C) : agG (am_u2 D 74 10 x) C := fun y i h1 h2 => by
  rw [am_u2_at, if_neg (by omega)]
  exact h y i h1 h2
theorem agG_p {D : Nat → Nat → Int32} {b n : Nat} {t rd : Int32} (h : agG D C) : agG (ptC D b n t rd) C := fun y i h1 h2 => by
  rw [ptC, am_u2_ne h1, am_u2_ne h1, am_u2_ne h1, am_u2_ne h1]
  exact h y i h1 h2
/-- go that adds: what it ends with -/
def g1P (C : Nat → Nat → Int32) (p : Nat → Option Nat) (u r : Nat) (A : aS) (l : List (Nat × Nat × Nat)) (c : Nat) (r' : Option Value) (C' : Nat → Nat → Int32) (p' : Nat → Option Nat) : Prop := ∃ e, r' = some (.int e) ∧ p' = p ∧ agG C' C ∧ (∀ B, addsA u r A l = some B → e = nI (c + l.length) ∧ C' 74 10 = 0 ∧ seesM (C' 75) B) ∧ (addsA u r A l = none → C' 74 10 = 1)
theorem m_M_go1 {u r b : Nat} {A : aS} {l : List (Nat × Nat × Nat)} (hL : C 74 7 = nI L) (h60 : L ≤ 60) (hg : good A) (hs : seesM (C 75) A) (hu : u < A.1) (hr : r < aR A u) (hp : pall L (C 79) 8 0 = (b, some l)) : am_Call (d + 4) 136 [.ref 74, .int (nI u), .int (nI r), .int 1] (am_w C p) (am_Ret (g1P C p u r A l 0)) := by
  have loop : ∀ (n i a c : Nat) (A : aS) (D : Nat → Nat → Int32) (l : List (Nat × Nat × Nat)) (b : Nat) (P : Option Value → (Nat → Nat → Int32) → (Nat → Option Nat) → Prop) (o6 o7 o8 o9 o10 o11 o12 o13 o14 : Option Value), i + n = 8 → 8 * i ≤ a → a ≤ L → pall L (C 79) n a = (b, some l) → good A → seesM (D 75) A → u < A.1 → r < aR A u → agG D C → D 74 10 = 0 → (∀ r' C' p', g1P C p u r A l c r' C' p' → P r' C' p') →
      am_At (d + 4) 136 none (am_Ret P) 21 [some (.ref 74), some (.int (nI u)), some (.int (nI r)), some (.int 1), some (.int (nI c)), some (.int 1), o6, o7, o8, o9, o10, o11, o12, o13, o14] [] (am_w (tC D a false) p) (0, 0) := by
    intro n
    induction n with
    | zero =>
      intro i a c A D l b P o6 o7 o8 o9 o10 o11 o12 o13 o14 hi ha haL _ _ _ _ _ _ _ _
      omega
    | succ n ih =>
      intro i a c A D l b P o6 o7 o8 o9 o10 o11 o12 o13 o14 hi ha haL hpl hg hs hu hr hag h10 hP
      have h4 := hg.1
      have hr6 := (hg.2.2.2.1 u (by omega)).1
      have hLD : D 74 7 = nI L := by rw [hag 74 7 (by decide) (by omega)]; exact hL
      have h79 : D 79 = C 79 := funext fun j => hag 79 j (by decide) (by omega)
      refine r21 hLD h60 haL (fun b1 hb hbL => ?_) (fun b1 t f rd hb x8 x9 x10 x11 y0 o12 o13 o14 hrd => ?_)
      · rw [h79] at hb
        rw [pall_no hb] at hpl
        cases hpl
      · rw [h79] at hb
        obtain ⟨hbL, hba, ht6', hf2'⟩ := pall_lt haL hb
        have ht6 : t < 6 := ht6'
        have hf2 : f < 2 := hf2'
        have fk := hg.2.2.2.2.1 (rwn u r f) (by unfold rwn; omega)
        have hbs := fbs_lt (u := u) (r := r) (f := f) (by omega) (by omega) hf2
        have mr := hs.2.2.2.2 u r f hu hr hf2
        have e75 : tC D b1 false 75 = D 75 := funext fun j => tC_o (by omega)
        have mrt : mrow (tC D b1 false 75) (fbs u r f) (aF A (rwn u r f)) := by rw [e75]; exact mr
        have key : am_At (d + 4) 136 none (am_Ret P) 161 [some (.ref 74), some (.int (nI u)), some (.int (nI r)), some (.int 1), some (.int (nI c)), some (.int 1), some (.int (nI t)), some (.int (bI (decide (f = 0)))), some (.int x8), some (.int x9), some (.int x10), some (.int x11), some (.int y0), o13, o14] [.int (nI (fbs u r f))] (am_w (tC D b1 false) p) (0, 0) := by
          apply s_M_go_161
          rw [tC_10, h10]
          refine ⟨fun q => absurd rfl q, fun _ => use_I (m_M_canPoint hbs mrt fk) (s_M_go_179 ⟨fun hc => s_M_go_187 ?_, fun hc => s_M_go_182 (s_M_go_187 ?_)⟩)⟩
          · rw [am_u2_same (show tC D b1 false 74 10 = 0 by rw [tC_10]; exact h10), tC_10, h10, hrd]
            rw [bI_ne] at hc
            obtain ⟨hg2, hro'⟩ := good_can (rd := rd) hg (by omega) hr ht6 hf2 hc
            have hro : (aF A (rwn u r f)).1 < 6 := hro'
            have hA1 : addsA u r A ((t, f, rd) :: []) = some (upF A (rwn u r f) (fadd (aF A (rwn u r f)) (nI t) (nI rd))) := by
              simp only [addsA]
              rw [if_pos hc]
            have hA2 : ∀ l', addsA u r A ((t, f, rd) :: l') = addsA u r (upF A (rwn u r f) (fadd (aF A (rwn u r f)) (nI t) (nI rd))) l' := by
              intro l'
              rw [addsA, if_pos hc]
            have hs2 : seesM (ptC D (fbs u r f) (aF A (rwn u r f)).1 (nI t) (nI rd) 75) (upF A (rwn u r f) (fadd (aF A (rwn u r f)) (nI t) (nI rd))) := seesM_face hg hs hu hr hf2 (fun k hk => by
              rw [ptC, am_u2_at, if_neg (by omega), am_u2_at, if_neg (by omega), am_u2_at, if_neg (by omega), am_u2_at, if_neg (by omega)]) (mrow_pt mr hro)
            have h10' : ptC D (fbs u r f) (aF A (rwn u r f)).1 (nI t) (nI rd) 74 10 = 0 := by
              rw [ptC, am_u2_ne (by decide), am_u2_ne (by decide), am_u2_ne (by decide), am_u2_ne (by decide)]
              exact h10
            refine ⟨Or.inl rfl, fun _ => use_I (m_M_points hbs mrt.1 hro) (s_M_go_224 (s_M_go_226 ?_)), fun q => absurd rfl q⟩
            rw [tC_pt]
            have hag2 : agG (ptC D (fbs u r f) (aF A (rwn u r f)).1 (nI t) (nI rd)) C := agG_p hag
            generalize ptC D (fbs u r f) (aF A (rwn u r f)).1 (nI t) (nI rd) = D2 at *
            have hL2 : D2 74 7 = nI L := by rw [hag2 74 7 (by decide) (by omega)]; exact hL
            have h792 : D2 79 = C 79 := funext fun j => hag2 79 j (by decide) (by omega)
            rw [tC_9, tC_10, h10', tC_7, hL2, tC_8, le5 (by omega) (by omega), nI_1]
            refine ⟨fun q => absurd rfl q, fun _ => ⟨fun q => absurd rfl q, fun _ => ⟨fun hLb => ?_, fun hLb => s_M_go_259 ⟨fun q => absurd q (by decide), fun _ => ?_⟩⟩⟩⟩
            · have eb : b1 = L := by omega
              subst eb
              rw [pall_end hb] at hpl
              cases hpl
              refine go_end ⟨_, p, rfl, hP _ _ _ ⟨_, rfl, rfl, agG_t hag2, fun B hB => ?_, fun hB => ?_⟩⟩
              · rw [hA1] at hB
                cases hB
                refine ⟨rfl, by rw [tC_10]; exact h10', ?_⟩
                have e : ∀ z, tC D2 z false 75 = D2 75 := fun z => funext fun j => tC_o (by omega)
                rw [e]
                exact hs2
              · rw [hA1] at hB
                cases hB
            · have hne : b1 ≠ L := by omega
              cases hsk : skp L (C 79) 59 b1 with
              | false =>
                rw [pall_s0 hb hne hsk] at hpl
                cases hpl
              | true =>
                rw [pall_s1 hb hne hsk] at hpl
                rcases hq : pall L (C 79) n (b1 + 1) with ⟨c3, _ | l3⟩
                · rw [hq] at hpl
                  cases hpl
                · rw [hq] at hpl
                  cases hpl
                  refine use_I (m_M_sign_ok (by decide) hL2 h60 hbL (by rw [okc_skp, h792]; exact hsk)) (s_M_go_274 ?_)
                  rw [tC_9]
                  refine ⟨fun q => absurd rfl q, fun _ => ih (i + 1) (b1 + 1) (c + 1) _ D2 l3 _ P _ _ _ _ _ _ _ _ _ (by omega) (by omega) (by omega) hq hg2 hs2 hu hr hag2 h10' (fun r' C' p' hG => hP _ _ _ ?_)⟩
                  obtain ⟨e, e1, e2, e3, e4, e5⟩ := hG
                  refine ⟨e, e1, e2, e3, fun B hB => ?_, fun hB => e5 (by rw [← hA2]; exact hB)⟩
                  rw [hA2] at hB
                  obtain ⟨q1, q2⟩ := e4 B hB
                  refine ⟨?_, q2⟩
                  rw [q1, List.length_cons, show c + 1 + l3.length = c + (l3.length + 1) by omega]
          · rw [bI_eq] at hc
            have q10 : am_u2 (tC D b1 false) 74 10 1 74 10 = 1 := by rw [am_u2_at, if_pos ⟨rfl, rfl⟩]
            rw [q10]
            refine ⟨Or.inr rfl, fun q => absurd q (by decide), fun _ => s_M_go_224 (s_M_go_226 ?_)⟩
            have q9 : am_u2 (tC D b1 false) 74 10 1 74 9 = 0 := by
              rw [am_u2_at, if_neg (by decide), tC_9]
              rfl
            rw [q10, q9]
            refine ⟨fun q => absurd rfl q, fun _ => ⟨fun _ => go_end ⟨_, p, rfl, hP _ _ _ ⟨_, rfl, rfl, agG_s (agG_t hag), fun B hB => ?_, fun hB => q10⟩⟩, fun q => absurd q (by decide)⟩⟩
            exfalso
            have hl : ∃ l', l = (t, f, rd) :: l' := by
              by_cases eb : b1 = L
              · subst eb
                rw [pall_end hb] at hpl
                cases hpl
                exact ⟨_, rfl⟩
              · cases hsk : skp L (C 79) 59 b1 with
                | false =>
                  rw [pall_s0 hb eb hsk] at hpl
                  cases hpl
                | true =>
                  rw [pall_s1 hb eb hsk] at hpl
                  rcases hq : pall L (C 79) n (b1 + 1) with ⟨c3, _ | l3⟩
                  · rw [hq] at hpl
                    cases hpl
                  · rw [hq] at hpl
                    cases hpl
                    exact ⟨_, rfl⟩
            obtain ⟨l', rfl⟩ := hl
            rw [addsA, if_neg (by rw [hc]; decide)] at hB
            cases hB
        apply s_M_go_140
        refine ⟨fun q => absurd q (by decide), fun _ => ⟨fun h7 => use_I (m_M_faceAt (f := 1)) ?_, fun h7 => use_I (m_M_faceAt (f := 0)) ?_⟩⟩
        · rw [bI_eq, decide_eq_false_iff_not] at h7
          have ef : f = 1 := by omega
          subst ef
          exact key
        · rw [bI_ne, decide_eq_true_eq] at h7
          subst h7
          exact key
  apply e_M_go
  apply s_M_go_0
  refine ⟨Or.inl rfl, Or.inl rfl, ?_⟩
  rw [tC_start]
  exact loop 8 0 0 0 A _ l b _ _ _ _ _ _ _ _ _ _ (by decide) (by decide) (by omega) hp hg (by rw [am_u2_ne (by decide)]; exact hs) hu hr (agG_s (fun _ _ _ _ => rfl)) (by rw [am_u2_at, if_pos ⟨rfl, rfl⟩]) (fun _ _ _ h => h)
end
