variable {zN : Nat}
theorem seeG_cur {C D : Nat → Nat → Int32} {p : Nat → Option Nat} {G : aGl} {A : aS} (h : ∀ x, x = 0 ∨ 11 ≤ x → D x = C x) (hs : seeG C p G) (ha : sees 1 D A) : seeG D p (gcs G A) := by
  obtain ⟨-, b, c, e, f, g, i, q, hq, j⟩ := hs
  refine ⟨ha, ?_, fun hk => sees_congr (fun x hx _ => h x (by omega)) (c hk), ?_, ?_, ?_, ?_, q, hq, ?_⟩
  · rw [h 0 (by decide)]; exact b
  · rw [h 21 (by decide)]; exact e
  · rw [h 63 (by decide)]; exact f
  · rw [h 64 (by decide)]; exact g
  · intro z hz
    rw [h (z + 9) (by omega)]
    exact i z hz
  · intro z hz
    refine sees_congr (fun x _ hx => h x ?_) (j z hz)
    have h4 : (ghis G).1 ≤ 4 := e.2
    have := (hq.1 z (by change z < (ghis G).1 at hz; omega)).2
    omega
theorem seeG_rec {C : Nat → Nat → Int32} {p : Nat → Option Nat} {q : Nat → Nat} {G : aGl} (hgc : good (gcur G)) (hs : seeG C p G) (hq : hst p q) (hj : ∀ i, i < (ghis G).1 → sees (q i) C ((ghis G).2 i)) : seeG (recC C q) (recp C p) (grec G (gcur G)) ∧ ∀ x, x ≤ 20 ∨ 63 ≤ x → recC C q x = C x := by
  obtain ⟨a, b, c, ⟨e, e4⟩, f, g, i, -⟩ := hs
  have hq' := hst_rec (C := C) hq
  have hm : recn C < 4 ∧ (recH (ghis G) (gcur G)).1 = recn C + 1 ∧ (recH (ghis G) (gcur G)).2 (recn C) = gcur G ∧ (∀ z, z < recn C → sees (recq C q z) C ((recH (ghis G) (gcur G)).2 z)) := by
    unfold recn recq recH
    by_cases h4 : (ghis G).1 = 4
    · have h4' : C 21 1 = 4 := by rw [e, h4]; rfl
      simp only [if_pos h4, if_pos h4']
      refine ⟨by decide, by simp, by simp, fun z hz => ?_⟩
      simp only [rotq, if_neg (show ¬ z = 3 by omega)]
      exact hj (z + 1) (by omega)
    · have h4' : ¬ nI (ghis G).1 = 4 := by
        intro h
        exact h4 ((eq5 (b := 4) (by omega) (by omega)).mp h)
      simp only [e, if_neg h4, if_neg h4', cl (show (ghis G).1 < 5000 by omega)]
      refine ⟨by omega, by simp, by simp, fun z hz => ?_⟩
      rw [if_neg (show ¬ z = (ghis G).1 by omega)]
      exact hj z hz
  obtain ⟨hm1, hm2, hm3, hm4⟩ := hm
  have hJ := (hq'.1 _ hm1).2
  have fr : ∀ x, x ≤ 20 ∨ 63 ≤ x → recC C q x = C x := by
    intro x hx
    funext k
    unfold recC
    rw [am_u2_ne (by omega), cp_other (by omega)]
  have fr2 : ∀ x, x ≠ 21 → (x < recq C q (recn C) ∨ recq C q (recn C) + 9 < x) → recC C q x = C x := by
    intro x h21 hx
    funext k
    unfold recC
    rw [am_u2_ne h21, cp_other hx]
  have fr3 : ∀ x, x ≠ 21 → recC C q x = cp 9 C (recq C q (recn C)) 1 x := by
    intro x h21
    funext k
    unfold recC
    rw [am_u2_ne h21]
  refine ⟨⟨sees_congr (fun x _ hx => fr x (by omega)) a, ?_, fun hk => sees_congr (fun x _ hx => fr x (by omega)) (c hk), ⟨?_, ?_⟩, ?_, ?_, ?_, recq C q, hq', ?_⟩, fr⟩
  · rw [fr 0 (by decide)]; exact b
  · show recC C q 21 1 = nI (recH (ghis G) (gcur G)).1
    rw [hm2]
    simp [recC, am_u2]
  · show (recH (ghis G) (gcur G)).1 ≤ 4
    omega
  · rw [fr 63 (by decide)]; exact f
  · rw [fr 64 (by decide)]; exact g
  · intro j hj k hk
    by_cases hjj : j = recq C q (recn C)
    · have h1 := cp_at (C := C) (a := j) (b := 1) (j := 8) (i := k) (by decide) hk
      rw [fr3 _ (by omega), ← hjj, show j + 9 = j + 1 + 8 by omega, h1]
      exact a.2.2.2.2.2.2.2 k hk
    · rw [fr2 _ (by omega) (by omega)]
      exact i j hj k hk
  · show ∀ z, z < (recH (ghis G) (gcur G)).1 → sees (recq C q z) (recC C q) ((recH (ghis G) (gcur G)).2 z)
    intro z hz
    rw [hm2] at hz
    have hz4 := (hq'.1 z (by omega)).2
    by_cases hzz : z = recn C
    · subst hzz
      rw [hm3]
      exact sees_congr (fun x hx _ => fr3 x (by omega)) (sees_cp a hgc)
    · have hne : recq C q z ≠ recq C q (recn C) := fun h => hzz (hq'.2 _ _ (by omega) hm1 h)
      exact sees_congr (fun x hx hx2 => fr2 x (by omega) (by omega)) (hm4 z (by omega))
theorem use_rec {d : Nat} {C : Nat → Nat → Int32} {p : Nat → Option Nat} {G : aGl} {K : aW → Prop} (hg : gG G) (hs : seeG C p G) (hk : ∀ C' p', seeG C' p' (grec G (gcur G)) → (∀ x, x ≤ 20 ∨ 63 ≤ x → C' x = C x) → K (am_w zN C' p')) : am_Cv (d + 2) 1 [.ref 21, .ref 1] (am_w zN C p) K := by
  have hs' := hs
  obtain ⟨a, b, c, ⟨e, e4⟩, f, g, i, q, hq, hj⟩ := hs'
  obtain ⟨h1, h2⟩ := seeG_rec hg.1 hs hq hj
  exact use_V (m_H_record hq e e4 a.2.2.2.2.2.2.2) (hk _ _ h1 h2)
theorem use_back {d n : Nat} {C : Nat → Nat → Int32} {p : Nat → Option Nat} {G : aGl} {K : aW → Prop} (hg : gG G) (hs : seeG C p G) (hn : (ghis G).1 = n + 1) (hk : ∀ C', seeG C' p ((ghis G).2 n, gkep G, gsnp G, (n, (ghis G).2), gtxt G) → (∀ x, x = 0 ∨ 11 ≤ x → x ≠ 21 → C' x = C x) → K (am_w zN C' p)) : am_Cv (d + 2) 2 [.ref 21, .ref 1] (am_w zN C p) K := by
  obtain ⟨a, b, c, ⟨e, e4⟩, f, g, i, q, hq, hj⟩ := hs
  refine use_V (m_H_takeBack (n := n) hq (by rw [e, hn]) (by omega) i) (hk _ ?_ ?_)
  · have fr : ∀ x, x = 0 ∨ 11 ≤ x → x ≠ 21 → tbC C (q n) n x = C x := by
      intro x hx hx2
      funext k
      unfold tbC
      rw [cp_other (by omega), am_u2_ne hx2]
    have hb := (hq.1 n (by omega)).2
    have hsn := hj n (by omega)
    refine ⟨?_, ?_, fun hk => sees_congr (fun x hx _ => fr x (by omega) (by omega)) (c hk), ⟨?_, by show n ≤ 4; omega⟩, ?_, ?_, ?_, q, hq, ?_⟩
    · refine sees_cp (sees_congr (fun x hx _ => ?_) hsn) (hg.2.2.2.1 n (by omega))
      funext k
      rw [am_u2_ne (by omega)]
    · rw [fr 0 (by decide) (by decide)]; exact b
    · show tbC C (q n) n 21 1 = nI n
      unfold tbC
      rw [cp_other (by omega)]
      simp [am_u2]
    · rw [fr 63 (by decide) (by decide)]; exact f
    · rw [fr 64 (by decide) (by decide)]; exact g
    · intro j hj k hk
      rw [fr _ (by omega) (by omega)]
      exact i j hj k hk
    · intro z hz
      change z < n at hz
      have hz4 := (hq.1 z (by omega)).2
      exact sees_congr (fun x hx _ => fr x (by omega) (by omega)) (hj z (by omega))
  · intro x hx hx2
    funext k
    unfold tbC
    rw [cp_other (by omega), am_u2_ne hx2]
/-- G stays good -/
theorem gG_rec {G : aGl} {A : aS} (hg : gG G) (ha : good A) : gG (grec G A) := by
  obtain ⟨h1, h2, h3, h4, h5⟩ := hg
  refine ⟨ha, h2, ?_, ?_, h5⟩
  · show (recH (ghis G) (gcur G)).1 ≤ 4
    unfold recH
    split
    · exact Nat.le_refl _
    · show (ghis G).1 + 1 ≤ 4
      omega
  · show ∀ i, i < (recH (ghis G) (gcur G)).1 → good ((recH (ghis G) (gcur G)).2 i)
    unfold recH
    split
    · intro i hi
      change i < 4 at hi
      show good (if i = 3 then gcur G else (ghis G).2 (i + 1))
      split
      · exact h1
      · exact h4 _ (by omega)
    · intro i hi
      change i < (ghis G).1 + 1 at hi
      show good (if i = (ghis G).1 then gcur G else (ghis G).2 i)
      split
      · exact h1
      · exact h4 _ (by omega)
