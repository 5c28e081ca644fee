/-! every operation keeps gG -/
section
variable {G : aGl}
theorem gG_oSetUp (hg : gG G) : gG (oSetUp G).2 := by
  unfold oSetUp
  by_cases h : (gcur G).1 < 4
  · rw [if_pos h]
    exact gG_rec hg (good_upN hg.1 h)
  · rw [if_neg h]
    exact hg
theorem gG_oBegin {u : Int32} (hg : gG G) : gG (oBegin G u).2 := by
  unfold oBegin
  by_cases h : hsA (gcur G) u = true
  · rw [if_pos h]
    obtain ⟨n, rfl, hn⟩ := hsA_ok h hg.1
    have h4 := hg.1.1
    rw [cn_nI (by omega)]
    by_cases h6 : aR (gcur G) n < 6
    · rw [if_pos h6]
      exact gG_rec hg (good_upR hg.1 hn (by omega) (by omega))
    · rw [if_neg h6]
      exact hg
  · rw [if_neg h]
    exact hg
theorem gG_oSetLimit {x : Int32} (hg : gG G) : gG (oSetLimit G x).2 := by
  unfold oSetLimit
  by_cases h : rb 1 600 x = false
  · rw [if_pos h]
    exact hg
  · rw [if_neg h]
    by_cases h2 : (gcur G).2.1 = x
    · rw [if_pos h2]
      exact hg
    · rw [if_neg h2]
      exact gG_rec hg (good_upL hg.1 (rb_rg (bf h)))
theorem gG_oSetDistance {t x : Int32} (hg : gG G) : gG (oSetDistance G t x).2 := by
  unfold oSetDistance
  by_cases h1 : isT t = false
  · rw [if_pos h1]
    exact hg
  · rw [if_neg h1]
    by_cases h : rb 1 9999 x = false
    · rw [if_pos h]
      exact hg
    · rw [if_neg h]
      by_cases h2 : aD (gcur G) (cn t) = x
      · rw [if_pos h2]
        exact hg
      · rw [if_neg h2]
        exact gG_rec hg (good_upD hg.1 (rb_rg (bf h)))
theorem gG_oCentre {u x y : Int32} (hg : gG G) : gG (oCentre G u x y).2 := by
  unfold oCentre
  by_cases h1 : hsA (gcur G) u = false
  · rw [if_pos h1]
    exact hg
  · rw [if_neg h1]
    obtain ⟨n, rfl, hn⟩ := hsA_ok (bf h1) hg.1
    have h4 := hg.1.1
    rw [cn_nI (by omega)]
    by_cases h : rb 0 99 x = false ∨ rb 0 23 y = false
    · rw [if_pos h]
      exact hg
    · rw [if_neg h]
      rw [not_or] at h
      by_cases h2 : aO (gcur G) n = x ∧ aQ (gcur G) n = y
      · rw [if_pos h2]
        exact hg
      · rw [if_neg h2]
        exact gG_rec hg (good_upC hg.1 hn (rb_rg (bf h.1)) (rb_rg (bf h.2)))
theorem gG_oType {x : Int32} (hg : gG G) : gG (oType G x).2 := by
  unfold oType
  by_cases h : (gtxt G).1 < 60
  · rw [if_pos h]
    exact ⟨hg.1, hg.2.1, hg.2.2.1, hg.2.2.2.1, by show (gtxt G).1 + 1 ≤ 60; omega⟩
  · rw [if_neg h]
    exact hg
theorem gG_oClear (hg : gG G) : gG (oClear G).2 := ⟨hg.1, hg.2.1, hg.2.2.1, hg.2.2.2.1, Nat.zero_le 60⟩
theorem gG_oUndo (hg : gG G) : gG (oUndo G).2 := by
  unfold oUndo
  by_cases h : (ghis G).1 = 0
  · rw [if_pos h]
    exact hg
  · rw [if_neg h]
    have h4 := hg.2.2.1
    exact ⟨hg.2.2.2.1 _ (by omega), hg.2.1, by show (ghis G).1 - 1 ≤ 4; omega, fun i hi => hg.2.2.2.1 i (by change i < (ghis G).1 - 1 at hi; omega), hg.2.2.2.2⟩
theorem gG_oKeep (hg : gG G) : gG (oKeep G).2 := ⟨hg.1, fun _ => hg.1, hg.2.2⟩
theorem gG_oRestore (hg : gG G) : gG (oRestore G).2 := by
  unfold oRestore
  by_cases h : gkep G = false
  · rw [if_pos h]
    exact hg
  · rw [if_neg h]
    exact gG_rec hg (hg.2.1 (bf h))
theorem gG_oPoint {u r t f rd : Int32} (hg : gG G) : gG (oPoint G u r t f rd).2 := by
  unfold oPoint
  by_cases h1 : hrA (gcur G) u r = false
  · rw [if_pos h1]; exact hg
  rw [if_neg h1]
  by_cases h2 : isT t = false
  · rw [if_pos h2]; exact hg
  rw [if_neg h2]
  by_cases h3 : isFc f = false
  · rw [if_pos h3]; exact hg
  rw [if_neg h3]
  by_cases h4 : isRd rd = false
  · rw [if_pos h4]; exact hg
  rw [if_neg h4]
  obtain ⟨un, rn, rfl, hu1, hu, rfl, hr1, hr⟩ := hrA_ok (bf h1) hg.1
  obtain ⟨tn, rfl, ht⟩ := isT_ok (bf h2)
  obtain ⟨fn, rfl, hf⟩ := isFc_ok (bf h3)
  rw [rwx_nI hu hr hf]
  have hk := hg.1.2.2.2.2.1 ((un * 6 + rn) * 2 + fn) (by omega)
  split
  · rename_i h5
    exact gG_rec hg (good_upF hg.1 hu hr1 hf (fok_fadd hk (fok_room hk ht h5.2) ht h5.2))
  · exact hg
theorem gG_oClose {u r f x : Int32} (hg : gG G) : gG (oClose G u r f x).2 := by
  unfold oClose
  by_cases h1 : hrA (gcur G) u r = false
  · rw [if_pos h1]; exact hg
  rw [if_neg h1]
  by_cases h3 : isFc f = false
  · rw [if_pos h3]; exact hg
  rw [if_neg h3]
  by_cases h4 : isRd x = false
  · rw [if_pos h4]; exact hg
  rw [if_neg h4]
  obtain ⟨un, rn, rfl, hu1, hu, rfl, hr1, hr⟩ := hrA_ok (bf h1) hg.1
  obtain ⟨fn, rfl, hf⟩ := isFc_ok (bf h3)
  rw [rwx_nI hu hr hf]
  have hk := hg.1.2.2.2.2.1 ((un * 6 + rn) * 2 + fn) (by omega)
  split
  · rename_i h5
    exact gG_rec hg (good_upF hg.1 hu hr1 hf (fok_fclo hk (by omega)))
  · exact hg
end
