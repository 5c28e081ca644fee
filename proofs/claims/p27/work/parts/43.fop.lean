/-! what is done to a face -/
def upF (A : aS) (row : Nat) (g : aFace) : aS := (A.1, A.2.1, aD A, aR A, aO A, aQ A, fun x => if x = row then g else aF A x)
def fadd (f : aFace) (t rd : Int32) : aFace := (f.1 + 1, cut (f.1 + 1) (fun k => if k = f.1 then t else f.2.1 k), cut (f.1 + 1) (fun k => if k = f.1 then rd else f.2.2.1 k), cut (f.1 + 1) (fun k => if k = f.1 then 0 else f.2.2.2.1 k), f.2.2.2.2)
def frem (f : aFace) (j : Nat) : aFace := (f.1 - 1, cut (f.1 - 1) (fun k => if j ≤ k then f.2.1 (k + 1) else f.2.1 k), cut (f.1 - 1) (fun k => if j ≤ k then f.2.2.1 (k + 1) else f.2.2.1 k), cut (f.1 - 1) (fun k => if j ≤ k then f.2.2.2.1 (k + 1) else f.2.2.2.1 k), f.2.2.2.2)
def fclo (f : aFace) (x : Int32) : aFace := (f.1, f.2.1, f.2.2.1, f.2.2.2.1, x)
def fstr (f : aFace) (j : Nat) (v : Int32) : aFace := (f.1, f.2.1, f.2.2.1, cut f.1 (fun k => if k = j then v else f.2.2.2.1 k), f.2.2.2.2)
theorem sees_row {C D : Nat → Nat → Int32} {A : aS} {row : Nat} {g : aFace} (hs : sees 1 C A) (hg : good A) (h1 : ∀ x, 1 ≤ x → x ≤ 5 → D x = C x) (h2 : ∀ r, r < 48 → r ≠ row → D 6 r = C 6 r ∧ D 7 r = C 7 r ∧ ∀ x, 8 ≤ x → x ≤ 10 → ∀ k, k < 6 → D x (r * 6 + k) = C x (r * 6 + k)) (h3 : D 6 row = nI g.1) (h4 : fS 1 D row = g) (h5 : ∀ i, i < 288 → D 10 i = 0 ∨ D 10 i = 1) : sees 1 D (upF A row g) := by
  obtain ⟨s0, s1, s2, s3, s4, s5, s6, s7⟩ := hs
  refine ⟨?_, ?_, ?_, ?_, ?_, ?_, ?_, h5⟩
  · rw [h1 1 (by decide) (by decide)]; exact s0
  · rw [h1 1 (by decide) (by decide)]; exact s1
  · rw [h1 5 (by decide) (by decide)]; exact s2
  · rw [h1 2 (by decide) (by decide)]; exact s3
  · rw [h1 3 (by decide) (by decide)]; exact s4
  · rw [h1 4 (by decide) (by decide)]; exact s5
  · intro r hr
    show D 6 r = nI (if r = row then g else aF A r).1 ∧ fS 1 D r = (if r = row then g else aF A r)
    by_cases e : r = row
    · rw [if_pos e, e]
      exact ⟨h3, h4⟩
    · rw [if_neg e]
      obtain ⟨g1, g2⟩ := s6 r hr
      obtain ⟨k1, k2, k3⟩ := h2 r hr e
      have hn : (C 6 r).toNatClampNeg ≤ 6 := by
        have := (hg.2.2.2.2.1 r hr).1
        rw [show C 6 r = nI (aF A r).1 from g1, cl (by omega)]
        exact this
      refine ⟨by rw [k1]; exact g1, ?_⟩
      rw [← g2]
      simp only [fS]
      rw [show D (1 + 5) r = C (1 + 5) r from k1, show D (1 + 6) r = C (1 + 6) r from k2]
      have hn' : (C (1 + 5) r).toNatClampNeg ≤ 6 := hn
      rw [cut_congr (fun k hk => k3 8 (by decide) (by decide) k (by omega)), cut_congr (fun k hk => k3 9 (by decide) (by decide) k (by omega)), cut_congr (fun k hk => k3 10 (by decide) (by decide) k (by omega))]
theorem face_n {C : Nat → Nat → Int32} {A : aS} (hs : sees 1 C A) {row : Nat} (hr : row < 48) : C 6 row = nI (aF A row).1 := (hs.2.2.2.2.2.2.1 row hr).1
theorem face_x {C : Nat → Nat → Int32} {A : aS} (hs : sees 1 C A) {row : Nat} (hr : row < 48) : C 7 row = (aF A row).2.2.2.2 := by
  rw [← sees_f hs hr]; rfl
theorem face_k {C : Nat → Nat → Int32} {A : aS} (hs : sees 1 C A) {row k : Nat} (hr : row < 48) (hk : k < (aF A row).1) : C 8 (row * 6 + k) = (aF A row).2.1 k ∧ C 9 (row * 6 + k) = (aF A row).2.2.1 k ∧ C 10 (row * 6 + k) = (aF A row).2.2.2.1 k := by
  rw [← sees_f hs hr] at hk ⊢
  exact ⟨(fS_tg hk).symm, (fS_rd hk).symm, (fS_sk hk).symm⟩
theorem fS_mk {C : Nat → Nat → Int32} {row : Nat} {g : aFace} (h1 : C 6 row = nI g.1) (h6 : g.1 < 5000) (h2 : cut g.1 g.2.1 = g.2.1) (h3 : cut g.1 g.2.2.1 = g.2.2.1) (h4 : cut g.1 g.2.2.2.1 = g.2.2.2.1) (h5 : C 7 row = g.2.2.2.2) (hk : ∀ k, k < g.1 → C 8 (row * 6 + k) = g.2.1 k ∧ C 9 (row * 6 + k) = g.2.2.1 k ∧ C 10 (row * 6 + k) = g.2.2.2.1 k) : fS 1 C row = g := by
  have e : (C (1 + 5) row).toNatClampNeg = g.1 := by
    rw [show C (1 + 5) row = nI g.1 from h1, cl h6]
  unfold fS
  rw [e, cut_congr (g := g.2.1) (fun k hk' => (hk k hk').1), cut_congr (g := g.2.2.1) (fun k hk' => (hk k hk').2.1), cut_congr (g := g.2.2.2.1) (fun k hk' => (hk k hk').2.2), h2, h3, h4, show C (1 + 6) row = g.2.2.2.2 from h5]
theorem cut_cut {n : Nat} {f : Nat → Int32} : cut n (cut n f) = cut n f := cut_congr (fun k hk => cut_lt hk)
theorem fS_cut {C : Nat → Nat → Int32} {A : aS} (hs : sees 1 C A) {row : Nat} (hr : row < 48) : cut (aF A row).1 (aF A row).2.1 = (aF A row).2.1 ∧ cut (aF A row).1 (aF A row).2.2.1 = (aF A row).2.2.1 ∧ cut (aF A row).1 (aF A row).2.2.2.1 = (aF A row).2.2.2.1 := by
  rw [← sees_f hs hr]
  exact ⟨cut_cut, cut_cut, cut_cut⟩
theorem sees_add {C : Nat → Nat → Int32} {A : aS} {row : Nat} {t rd : Int32} (hs : sees 1 C A) (hg : good A) (hr : row < 48) (h6 : (aF A row).1 < 6) : sees 1 (addC C row (aF A row).1 t rd) (upF A row (fadd (aF A row) t rd)) := by
  have hn := face_n hs hr
  have hx := face_x hs hr
  have hk := fun k => face_k (k := k) hs hr
  have h10 := hs.2.2.2.2.2.2.2
  generalize hf : aF A row = f at *
  have e6 : addC C row f.1 t rd 6 row = nI (fadd f t rd).1 := by simp [addC, am_u2_at, fadd]
  refine sees_row hs hg (fun x h1 h2 => ?_) (fun r hr' hne => ⟨?_, ?_, fun x h8 h10 k hk' => ?_⟩) e6 (fS_mk e6 ?_ cut_cut cut_cut cut_cut ?_ (fun k hk' => ?_)) (fun i hi => ?_)
  · funext i
    simp only [addC, am_u2_at]
    rw [if_neg (by omega), if_neg (by omega), if_neg (by omega), if_neg (by omega)]
  · simp [addC, am_u2_at, hne]
  · simp [addC, am_u2_at]
  · simp only [addC, am_u2_at]
    rw [if_neg (by omega), if_neg (by omega), if_neg (by omega), if_neg (by omega)]
  · simp only [fadd]; omega
  · simp only [addC, am_u2_at, fadd]
    rw [if_neg (by omega), if_neg (by omega), if_neg (by omega), if_neg (by omega)]
    exact hx
  · have hk2 : k < f.1 + 1 := hk'
    simp only [fadd]
    rw [cut_lt hk2, cut_lt hk2, cut_lt hk2]
    by_cases e : k = f.1
    · subst e
      simp [addC, am_u2_at]
    · obtain ⟨a, b, c⟩ := hk k (by omega)
      simp only [addC, am_u2_at, if_neg e, a, b, c]
      simp [show ¬ (row * 6 + k = row * 6 + f.1) by omega, e]
  · simp only [addC, am_u2_at]
    by_cases e : i = row * 6 + f.1
    · simp [e]
    · simp [e]
      exact h10 i hi
theorem sees_rem {C : Nat → Nat → Int32} {A : aS} {row j : Nat} (hs : sees 1 C A) (hg : good A) (hr : row < 48) (hj : j < (aF A row).1) : sees 1 (rmvC C row (aF A row).1 j) (upF A row (frem (aF A row) j)) := by
  have hn := face_n hs hr
  have hx := face_x hs hr
  have hk := fun k => face_k (k := k) hs hr
  have h10 := hs.2.2.2.2.2.2.2
  have h6 := (hg.2.2.2.2.1 row hr).1
  generalize hf : aF A row = f at *
  have e6 : rmvC C row f.1 j 6 row = nI (frem f j).1 := by simp [rmvC, shf, am_u2_at, frem]
  refine sees_row hs hg (fun x h1 h2 => ?_) (fun r hr' hne => ⟨?_, ?_, fun x h8 h10 k hk' => ?_⟩) e6 (fS_mk e6 ?_ cut_cut cut_cut cut_cut ?_ (fun k hk' => ?_)) (fun i hi => ?_)
  · funext i
    simp only [rmvC, shf, am_u2_at]
    rw [if_neg (by omega), if_neg (by omega)]
  · simp [rmvC, shf, am_u2_at, hne]
  · simp [rmvC, shf, am_u2_at]
  · simp only [rmvC, shf, am_u2_at]
    rw [if_neg (by omega), if_neg (by omega)]
  · simp only [frem]; omega
  · simp only [rmvC, shf, am_u2_at, frem]
    rw [if_neg (by omega), if_neg (by omega)]
    exact hx
  · have hk2 : k < f.1 - 1 := hk'
    simp only [frem]
    rw [cut_lt hk2, cut_lt hk2, cut_lt hk2]
    have hki := hk k (by omega)
    have hki1 := hk (k + 1) (by omega)
    rw [show row * 6 + (k + 1) = row * 6 + k + 1 by omega] at hki1
    by_cases e : j ≤ k
    · have e2 : row * 6 + j ≤ row * 6 + k ∧ row * 6 + k < row * 6 + (f.1 - 1) := by omega
      simp [rmvC, shf, am_u2_at, e2, e, hki1]
    · have e2 : ¬ (row * 6 + j ≤ row * 6 + k ∧ row * 6 + k < row * 6 + (f.1 - 1)) := by omega
      simp only [rmvC, shf, am_u2_at, e2, e, if_false, and_false, hki]
      simp
  · simp only [rmvC, shf, am_u2_at]
    by_cases e : row * 6 + j ≤ i ∧ i < row * 6 + (f.1 - 1)
    · simp [e]
      exact h10 (i + 1) (by omega)
    · rw [if_neg (by omega), if_neg (by omega)]
      exact h10 i hi
theorem sees_clo {C : Nat → Nat → Int32} {A : aS} {row : Nat} {x : Int32} (hs : sees 1 C A) (hg : good A) (hr : row < 48) : sees 1 (am_u2 C 7 row x) (upF A row (fclo (aF A row) x)) := by
  have hn := face_n hs hr
  have hk := fun k => face_k (k := k) hs hr
  have h10 := hs.2.2.2.2.2.2.2
  have h6 := (hg.2.2.2.2.1 row hr).1
  obtain ⟨c1, c2, c3⟩ := fS_cut hs hr
  generalize hf : aF A row = f at *
  have e6 : am_u2 C 7 row x 6 row = nI (fclo f x).1 := by rw [am_u2_ne (by decide)]; exact hn
  refine sees_row hs hg (fun y h1 h2 => ?_) (fun r hr' hne => ⟨?_, ?_, fun y h8 h10 k hk' => ?_⟩) e6 (fS_mk e6 ?_ c1 c2 c3 ?_ (fun k hk' => ?_)) (fun i hi => ?_)
  · funext i
    rw [am_u2_ne (by omega)]
  · rw [am_u2_ne (by omega)]
  · simp [am_u2_at, hne]
  · rw [am_u2_ne (by omega)]
  · simp only [fclo]; omega
  · simp [am_u2_at, fclo]
  · rw [am_u2_ne (by omega), am_u2_ne (by omega), am_u2_ne (by omega)]
    exact hk k hk'
  · rw [am_u2_ne (by omega)]
    exact h10 i hi
theorem sees_str {C : Nat → Nat → Int32} {A : aS} {row j : Nat} {v : Int32} (hs : sees 1 C A) (hg : good A) (hr : row < 48) (hj : j < (aF A row).1) (hv : v = 0 ∨ v = 1) : sees 1 (am_u2 C 10 (row * 6 + j) v) (upF A row (fstr (aF A row) j v)) := by
  have hn := face_n hs hr
  have hx := face_x hs hr
  have hk := fun k => face_k (k := k) hs hr
  have h10 := hs.2.2.2.2.2.2.2
  have h6 := (hg.2.2.2.2.1 row hr).1
  obtain ⟨c1, c2, c3⟩ := fS_cut hs hr
  generalize hf : aF A row = f at *
  have e6 : am_u2 C 10 (row * 6 + j) v 6 row = nI (fstr f j v).1 := by rw [am_u2_ne (by decide)]; exact hn
  refine sees_row hs hg (fun y h1 h2 => ?_) (fun r hr' hne => ⟨?_, ?_, fun y h8 h10 k hk' => ?_⟩) e6 (fS_mk e6 ?_ c1 c2 cut_cut ?_ (fun k hk' => ?_)) (fun i hi => ?_)
  · funext i
    rw [am_u2_ne (by omega)]
  · rw [am_u2_ne (by omega)]
  · rw [am_u2_ne (by omega)]
  · simp only [am_u2_at]
    rw [if_neg (by omega)]
  · simp only [fstr]; omega
  · rw [am_u2_ne (by omega)]; exact hx
  · have hk2 : k < f.1 := hk'
    obtain ⟨a, b, c⟩ := hk k hk2
    refine ⟨?_, ?_, ?_⟩
    · rw [am_u2_ne (by omega)]; exact a
    · rw [am_u2_ne (by omega)]; exact b
    · simp only [fstr]
      rw [cut_lt hk2]
      by_cases e : k = j
      · simp [e, am_u2_at]
      · rw [if_neg e, am_u2_at, if_neg (by omega)]
        exact c
  · simp only [am_u2_at]
    by_cases e : i = row * 6 + j
    · simp [e, hv]
    · simp [e]
      exact h10 i hi
theorem good_upF {A : aS} {u r f : Nat} {g : aFace} (hg : good A) (hu : u < 4) (hr : r < aR A u) (hf : f < 2) (hk : fok g) : good (upF A ((u * 6 + r) * 2 + f) g) := by
  obtain ⟨h1, h2, h3, h4, h5, h6, h7⟩ := hg
  refine ⟨h1, h2, h3, h4, ?_, h6, ?_⟩
  · intro row hrow
    show fok (if row = (u * 6 + r) * 2 + f then g else aF A row)
    split
    · exact hk
    · exact h5 row hrow
  · intro u' r' f' hu' hr' hf' hle
    change aR A u' ≤ r' at hle
    show (if (u' * 6 + r') * 2 + f' = (u * 6 + r) * 2 + f then g else aF A ((u' * 6 + r') * 2 + f')) = f0
    rw [if_neg ?_]
    · exact h7 u' r' f' hu' hr' hf' hle
    · intro e
      have h8 := (h4 u hu).1
      have : u' = u ∧ r' = r := by omega
      rw [this.1, this.2] at hle
      omega
