/-! the model: one pointing of its text -/
/-- the place of go behind a pointing, with something wrong at b -/
abbrev gW (d : Nat) (Post : Option Value → aW → Prop) (C : Nat → Nat → Int32) (p : Nat → Option Nat) (x1 x2 x3 x4 x5 : Int32) (b : Nat) : Prop := ∀ (x6 x7 x8 x9 x10 x11 y0 : Int32) (o12 o13 o14 : Option Value), am_At (d + 4) 136 none Post 140 [some (.ref 74), some (.int x1), some (.int x2), some (.int x3), some (.int x4), some (.int x5), some (.int x6), some (.int x7), some (.int x8), some (.int x9), some (.int x10), some (.int x11), o12, o13, o14] [.int y0] (am_w (tC C b true) p) (0, 0)
/-- and with nothing wrong: the target, the face, the reading -/
abbrev gR (d : Nat) (Post : Option Value → aW → Prop) (C : Nat → Nat → Int32) (p : Nat → Option Nat) (x1 x2 x3 x4 x5 x6 x7 : Int32) (b r : Nat) : Prop := ∀ (x8 x9 x10 x11 y0 : Int32) (o12 o13 o14 : Option Value), 3600 * x9 + 60 * x11 + y0 = nI r → am_At (d + 4) 136 none Post 140 [some (.ref 74), some (.int x1), some (.int x2), some (.int x3), some (.int x4), some (.int x5), some (.int x6), some (.int x7), some (.int x8), some (.int x9), some (.int x10), some (.int x11), o12, o13, o14] [.int y0] (am_w (tC C b false) p) (0, 0)
section
variable {d : Nat} {Post : Option Value → aW → Prop} {C : Nat → Nat → Int32} {p : Nat → Option Nat} {L a b : Nat} {x1 x2 x3 x4 x5 x6 x7 x8 x9 x10 x11 y0 : Int32} {o6 o7 o8 o9 o10 o11 o12 o13 o14 : Option Value}
theorem w132 (hL : C 74 7 = nI L) (h60 : L ≤ 60) (hb : b ≤ L) (h : gW d Post C p x1 x2 x3 x4 x5 b) : am_At (d + 4) 136 none Post 132 [some (.ref 74), some (.int x1), some (.int x2), some (.int x3), some (.int x4), some (.int x5), some (.int x6), some (.int x7), some (.int x8), some (.int x9), some (.int x10), some (.int x11), o12, o13, o14] [.int y0] (am_w (tC C b true) p) (0, 0) :=
  s_M_go_132 (use_I (m_M_number_w (most := 59) hL h60 hb) (h _ _ _ _ _ _ _ _ _ _))
theorem w122 (hL : C 74 7 = nI L) (h60 : L ≤ 60) (hb : b ≤ L) (h : gW d Post C p x1 x2 x3 x4 x5 b) : am_At (d + 4) 136 none Post 122 [some (.ref 74), some (.int x1), some (.int x2), some (.int x3), some (.int x4), some (.int x5), some (.int x6), some (.int x7), some (.int x8), some (.int x9), some (.int x10), o11, o12, o13, o14] [.int y0] (am_w (tC C b true) p) (0, 0) :=
  s_M_go_122 (use_I (m_M_sign_w (by decide) hL h60 hb) (w132 hL h60 hb h))
theorem w114 (hL : C 74 7 = nI L) (h60 : L ≤ 60) (hb : b ≤ L) (h : gW d Post C p x1 x2 x3 x4 x5 b) : am_At (d + 4) 136 none Post 114 [some (.ref 74), some (.int x1), some (.int x2), some (.int x3), some (.int x4), some (.int x5), some (.int x6), some (.int x7), some (.int x8), some (.int x9), o10, o11, o12, o13, o14] [.int y0] (am_w (tC C b true) p) (0, 0) :=
  s_M_go_114 (use_I (m_M_number_w (most := 59) hL h60 hb) (w122 hL h60 hb h))
theorem w104 (hL : C 74 7 = nI L) (h60 : L ≤ 60) (hb : b ≤ L) (h : gW d Post C p x1 x2 x3 x4 x5 b) : am_At (d + 4) 136 none Post 104 [some (.ref 74), some (.int x1), some (.int x2), some (.int x3), some (.int x4), some (.int x5), some (.int x6), some (.int x7), some (.int x8), o9, o10, o11, o12, o13, o14] [.int y0] (am_w (tC C b true) p) (0, 0) :=
  s_M_go_104 (use_I (m_M_sign_w (by decide) hL h60 hb) (w114 hL h60 hb h))
theorem w95 (hL : C 74 7 = nI L) (h60 : L ≤ 60) (hb : b ≤ L) (h : gW d Post C p x1 x2 x3 x4 x5 b) : am_At (d + 4) 136 none Post 95 [some (.ref 74), some (.int x1), some (.int x2), some (.int x3), some (.int x4), some (.int x5), some (.int x6), some (.int x7), o8, o9, o10, o11, o12, o13, o14] [.int y0] (am_w (tC C b true) p) (0, 0) :=
  s_M_go_95 (use_I (m_M_number_w (most := 359) hL h60 hb) (w104 hL h60 hb h))
theorem w69 (hL : C 74 7 = nI L) (h60 : L ≤ 60) (hb : b ≤ L) (h : gW d Post C p x1 x2 x3 x4 x5 b) : am_At (d + 4) 136 none Post 69 [some (.ref 74), some (.int x1), some (.int x2), some (.int x3), some (.int x4), some (.int x5), some (.int x6), o7, o8, o9, o10, o11, o12, o13, o14] [.int y0] (am_w (tC C b true) p) (0, 0) :=
  s_M_go_69 ⟨fun _ => use_I (m_M_sign_w (by decide) hL h60 hb) (w95 hL h60 hb h), fun _ => use_I (m_M_sign_w (by decide) hL h60 hb) (s_M_go_84 (w95 hL h60 hb h))⟩
theorem w34 (hL : C 74 7 = nI L) (h60 : L ≤ 60) (hb : b ≤ L) (h : gW d Post C p x1 x2 x3 x4 x5 b) : am_At (d + 4) 136 none Post 34 [some (.ref 74), some (.int x1), some (.int x2), some (.int x3), some (.int x4), some (.int x5), o6, o7, o8, o9, o10, o11, o12, o13, o14] [.int y0] (am_w (tC C b true) p) (0, 0) := by
  apply s_M_go_34
  rw [tC_7, tC_8, hL, le5 (by omega) (by omega)]
  exact ⟨fun _ => s_M_go_68 (w69 hL h60 hb h), fun h2 => ⟨vpi (by omega) (by decide), fun _ => s_M_go_68 (w69 hL h60 hb h), fun _ => w69 hL h60 hb h⟩⟩
theorem nI_3600 (g m s : Nat) : (3600 : Int32) * nI g + 60 * nI m + nI s = nI ((g * 60 + m) * 60 + s) := by
  rw [show (3600 : Int32) = nI 3600 from rfl, show (60 : Int32) = nI 60 from rfl, nI_mul, nI_mul, nI_add, nI_add, show 3600 * g + 60 * m + s = (g * 60 + m) * 60 + s by omega]
theorem r95 (hL : C 74 7 = nI L) (h60 : L ≤ 60) (ha : a ≤ L) (hno : ∀ b, ang L (C 79) a = (b, none) → b ≤ L → gW d Post C p x1 x2 x3 x4 x5 b) (hok : ∀ b r, ang L (C 79) a = (b, some r) → gR d Post C p x1 x2 x3 x4 x5 x6 x7 b r) : am_At (d + 4) 136 none Post 95 [some (.ref 74), some (.int x1), some (.int x2), some (.int x3), some (.int x4), some (.int x5), some (.int x6), some (.int x7), o8, o9, o10, o11, o12, o13, o14] [.int y0] (am_w (tC C a false) p) (0, 0) := by
  apply s_M_go_95
  have n1 := (num_in (ch := C 79) (most := 359) (by decide) ha).2.1
  rcases h1 : num L (C 79) 359 a with ⟨b1, _ | g⟩
  · rw [h1] at n1
    exact use_I (m_M_number_no (most := 359) hL h60 ha h1) (w104 hL h60 n1 (hno b1 (by simp only [ang, h1]) n1))
  · rw [h1] at n1
    refine use_I (m_M_number_ok (most := 359) hL h60 ha (by decide) (by decide) h1) (s_M_go_104 ?_)
    cases hs1 : skp L (C 79) 58 b1 with
    | false => exact use_I (m_M_sign_no (by decide) hL h60 n1 (by rw [okc_skp]; exact hs1)) (w114 hL h60 n1 (hno b1 (by simp [ang, h1, hs1]) n1))
    | true =>
      have l1 : b1 + 1 ≤ L := skp_lt hs1
      refine use_I (m_M_sign_ok (by decide) hL h60 n1 (by rw [okc_skp]; exact hs1)) (s_M_go_114 ?_)
      have n2 := (num_in (ch := C 79) (most := 59) (by decide) l1).2.1
      rcases h2 : num L (C 79) 59 (b1 + 1) with ⟨b2, _ | m⟩
      · rw [h2] at n2
        exact use_I (m_M_number_no (most := 59) hL h60 l1 h2) (w122 hL h60 n2 (hno b2 (by simp [ang, ang2, h1, hs1, h2]) n2))
      · rw [h2] at n2
        refine use_I (m_M_number_ok (most := 59) hL h60 l1 (by decide) (by decide) h2) (s_M_go_122 ?_)
        cases hs2 : skp L (C 79) 58 b2 with
        | false => exact use_I (m_M_sign_no (by decide) hL h60 n2 (by rw [okc_skp]; exact hs2)) (w132 hL h60 n2 (hno b2 (by simp [ang, ang2, h1, hs1, h2, hs2]) n2))
        | true =>
          have l2 : b2 + 1 ≤ L := skp_lt hs2
          refine use_I (m_M_sign_ok (by decide) hL h60 n2 (by rw [okc_skp]; exact hs2)) (s_M_go_132 ?_)
          have n3 := (num_in (ch := C 79) (most := 59) (by decide) l2).2.1
          rcases h3 : num L (C 79) 59 (b2 + 1) with ⟨b3, _ | z⟩
          · rw [h3] at n3
            exact use_I (m_M_number_no (most := 59) hL h60 l2 h3) (hno b3 (by simp [ang, ang2, ang3, h1, hs1, h2, hs2, h3]) n3 _ _ _ _ _ _ _ _ _ _)
          · exact use_I (m_M_number_ok (most := 59) hL h60 l2 (by decide) (by decide) h3) (hok b3 _ (by simp [ang, ang2, ang3, h1, hs1, h2, hs2, h3]) _ _ _ _ _ _ _ _ (nI_3600 g m z))
theorem r21 (hL : C 74 7 = nI L) (h60 : L ≤ 60) (ha : a ≤ L) (hno : ∀ b, ppt L (C 79) a = (b, none) → b ≤ L → gW d Post C p x1 x2 x3 x4 1 b) (hok : ∀ b t f r, ppt L (C 79) a = (b, some (t, f, r)) → gR d Post C p x1 x2 x3 x4 1 (nI t) (bI (decide (f = 0))) b r) : am_At (d + 4) 136 none Post 21 [some (.ref 74), some (.int x1), some (.int x2), some (.int x3), some (.int x4), some (.int 1), o6, o7, o8, o9, o10, o11, o12, o13, o14] [] (am_w (tC C a false) p) (0, 0) := by
  apply s_M_go_21
  refine ⟨fun h => absurd h (by decide), fun _ => ?_⟩
  obtain ⟨t1, t2⟩ := okc_tgt (L := L) (ch := C 79) (a := a)
  cases ht : tgt L (C 79) a with
  | none =>
    rw [ht] at t1
    exact use_I (m_M_sign_no (by decide) hL h60 ha t1) (w34 hL h60 ha (hno a (by simp [ppt, ht]) ha))
  | some t =>
    rw [ht] at t1
    have ha1 : a + 1 ≤ L := by
      have := t1
      unfold okc at this
      rw [Option.isSome_some, decide_eq_true_eq] at this
      exact this.1
    refine use_I (m_M_sign_ok (by decide) hL h60 ha t1) (s_M_go_34 ?_)
    rw [t2 t ht, tC_7, tC_8, hL, cl (n := a + 1) (by omega), tC_79, le5 (by omega) (by omega)]
    have n68 : skp L (C 79) 108 (a + 1) = false → am_At (d + 4) 136 none Post 68 [some (.ref 74), some (.int x1), some (.int x2), some (.int x3), some (.int x4), some (.int 1), some (.int (nI t)), o7, o8, o9, o10, o11, o12, o13, o14] [] (am_w (tC C (a + 1) false) p) (0, 0) := by
      intro h108
      apply s_M_go_68
      apply s_M_go_69
      refine ⟨fun _ => ?_, fun h => absurd rfl h⟩
      cases h114 : skp L (C 79) 114 (a + 1) with
      | false => exact use_I (m_M_sign_no (by decide) hL h60 ha1 (by rw [okc_skp]; exact h114)) (w95 hL h60 ha1 (hno (a + 1) (by simp [ppt, ht, fac, h108, h114]) ha1))
      | true =>
        have ha2 : a + 2 ≤ L := skp_lt h114
        exact use_I (m_M_sign_ok (by decide) hL h60 ha1 (by rw [okc_skp]; exact h114)) (r95 (a := a + 2) hL h60 ha2 (fun b e hb => hno b (by simp [ppt, ht, fac, h108, h114, ppt2, e]) hb) (fun b r e => hok b t 1 r (by simp [ppt, ht, fac, h108, h114, ppt2, e])))
    refine ⟨fun h => n68 ?_, fun h => ⟨vpi (by omega) (by decide), fun h2 => n68 ?_, fun h2 => ?_⟩⟩
    · rw [skp, decide_eq_false]
      omega
    · rw [skp, decide_eq_false]
      exact fun q => h2 q.2
    · have h108 : skp L (C 79) 108 (a + 1) = true := by
        rw [skp, decide_eq_true]
        exact ⟨by omega, h2⟩
      have ha2 : a + 2 ≤ L := by omega
      apply s_M_go_69
      exact ⟨fun h => absurd h (by decide), fun _ => use_I (m_M_sign_ok (by decide) hL h60 ha1 (by rw [okc_skp]; exact h108)) (s_M_go_84 (r95 (a := a + 2) hL h60 ha2 (fun b e hb => hno b (by simp [ppt, ht, fac, h108, ppt2, e]) hb) (fun b r e => hok b t 0 r (by simp [ppt, ht, fac, h108, ppt2, e]))))⟩
end
