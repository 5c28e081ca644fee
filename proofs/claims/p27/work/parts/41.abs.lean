/-! WHAT BOTH SIDES HOLD: a state, a snapshot, a history, a text -/
/-- set-ups, limit, distances, rounds, offsets, sectors, faces -/
abbrev aS : Type := Nat × Int32 × (Nat → Int32) × (Nat → Nat) × (Nat → Int32) × (Nat → Int32) × (Nat → aFace)
def aR (A : aS) : Nat → Nat := A.2.2.2.1
def aO (A : aS) : Nat → Int32 := A.2.2.2.2.1
def aQ (A : aS) : Nat → Int32 := A.2.2.2.2.2.1
def aF (A : aS) : Nat → aFace := A.2.2.2.2.2.2
def aD (A : aS) : Nat → Int32 := A.2.2.1
/-- the State at o holds A -/
def sees (o : Nat) (C : Nat → Nat → Int32) (A : aS) : Prop := C o 0 = nI A.1 ∧ C o 1 = A.2.1 ∧ (∀ t, t < 6 → C (o + 4) t = aD A t) ∧ (∀ u, u < 4 → C (o + 1) u = nI (aR A u)) ∧ (∀ u, u < 4 → C (o + 2) u = aO A u) ∧ (∀ u, u < 4 → C (o + 3) u = aQ A u) ∧ (∀ row, row < 48 → C (o + 5) row = nI (aF A row).1 ∧ fS o C row = aF A row) ∧ ∀ i, i < 288 → C (o + 9) i = 0 ∨ C (o + 9) i = 1
def f0 : aFace := (0, fun _ => 0, fun _ => 0, fun _ => 0, -1)
def rg (lo hi : Int) (x : Int32) : Prop := lo ≤ x.toInt ∧ x.toInt ≤ hi
/-- a good state -/
def good (A : aS) : Prop := A.1 ≤ 4 ∧ rg 1 600 A.2.1 ∧ (∀ t, t < 6 → rg 1 9999 (aD A t)) ∧ (∀ u, u < 4 → aR A u ≤ 6 ∧ rg 0 99 (aO A u) ∧ rg 0 23 (aQ A u)) ∧ (∀ row, row < 48 → fok (aF A row)) ∧ (∀ u, u < 4 → A.1 ≤ u → aR A u = 0 ∧ aO A u = 0 ∧ aQ A u = 0) ∧ (∀ u r f, u < 4 → r < 6 → f < 2 → aR A u ≤ r → aF A ((u * 6 + r) * 2 + f) = f0)
theorem cut_congr {n : Nat} {f g : Nat → Int32} (h : ∀ k, k < n → f k = g k) : cut n f = cut n g := by
  funext k
  unfold cut
  by_cases hk : k < n
  · rw [if_pos hk, if_pos hk, h k hk]
  · rw [if_neg hk, if_neg hk]
theorem sees_congr {o : Nat} {C C' : Nat → Nat → Int32} {A : aS} (h : ∀ x, o ≤ x → x ≤ o + 9 → C' x = C x) (hs : sees o C A) : sees o C' A := by
  have e : ∀ z, z ≤ 9 → C' (o + z) = C (o + z) := fun z hz => h _ (by omega) (by omega)
  have e0 : C' o = C o := e 0 (by omega)
  have ef : ∀ row, fS o C' row = fS o C row := by
    intro row
    simp only [fS]
    rw [e 5 (by omega), e 6 (by omega), e 7 (by omega), e 8 (by omega), e 9 (by omega)]
  unfold sees at *
  rw [e0, e 1 (by omega), e 2 (by omega), e 3 (by omega), e 4 (by omega), e 5 (by omega), e 9 (by omega)]
  simp only [ef]
  exact hs
theorem sees_cok {C : Nat → Nat → Int32} {A : aS} (h : sees 1 C A) (hg : good A) {row : Nat} (hr : row < 48) : cok 1 C row := by
  obtain ⟨h1, h2⟩ := h.2.2.2.2.2.2.1 row hr
  refine ⟨?_, ?_⟩
  · rw [h2]; exact h1
  · rw [h2]; exact hg.2.2.2.2.1 row hr
theorem sees_f {o : Nat} {C : Nat → Nat → Int32} {A : aS} (h : sees o C A) {row : Nat} (hr : row < 48) : fS o C row = aF A row := (h.2.2.2.2.2.2.1 row hr).2
theorem sees_cp {a b : Nat} {C : Nat → Nat → Int32} {A : aS} (h : sees b C A) (hg : good A) : sees a (cp 9 C a b) A := by
  obtain ⟨h0, h1, h2, h3, h4, h5, h6, h7⟩ := h
  have e : ∀ j i, j < 9 → i < ln j → cp 9 C a b (a + (j + 1)) i = C (b + (j + 1)) i := by
    intro j i hj hi
    have := cp_at (C := C) (a := a) (b := b) hj hi
    rw [show a + 1 + j = a + (j + 1) by omega, show b + 1 + j = b + (j + 1) by omega] at this
    exact this
  refine ⟨?_, ?_, ?_, ?_, ?_, ?_, ?_, ?_⟩
  · rw [cp_at0 (by decide)]; exact h0
  · rw [cp_at0 (by decide)]; exact h1
  · intro t ht
    rw [e 3 t (by decide) (by simpa [ln] using ht)]; exact h2 t ht
  · intro t ht
    rw [e 0 t (by decide) (by simpa [ln] using ht)]; exact h3 t ht
  · intro t ht
    rw [e 1 t (by decide) (by simpa [ln] using ht)]; exact h4 t ht
  · intro t ht
    rw [e 2 t (by decide) (by simpa [ln] using ht)]; exact h5 t ht
  · intro row hr
    obtain ⟨g1, g2⟩ := h6 row hr
    have g3 := (hg.2.2.2.2.1 row hr).1
    rw [e 4 row (by decide) (by simpa [ln] using hr)]
    refine ⟨g1, ?_⟩
    rw [← g2]
    have hn : (C (b + 5) row).toNatClampNeg ≤ 6 := by rw [g1, cl (by omega)]; exact g3
    simp only [fS]
    rw [e 4 row (by decide) (by simpa [ln] using hr), e 5 row (by decide) (by simpa [ln] using hr)]
    have k1 : ∀ j, 6 ≤ j → j < 9 → cut (C (b + 5) row).toNatClampNeg (fun k => cp 9 C a b (a + (j + 1)) (row * 6 + k)) = cut (C (b + 5) row).toNatClampNeg (fun k => C (b + (j + 1)) (row * 6 + k)) := by
      intro j hj1 hj2
      apply cut_congr
      intro k hk
      apply e j _ (by omega)
      have : ln j = 288 := by
        obtain rfl | rfl | rfl : j = 6 ∨ j = 7 ∨ j = 8 := by omega
        all_goals rfl
      rw [this]
      omega
    rw [k1 6 (by decide) (by decide), k1 7 (by decide) (by decide), k1 8 (by decide) (by decide)]
  · intro i hi
    rw [e 8 i (by decide) (by simpa [ln] using hi)]; exact h7 i hi
/-- the whole: state, whether kept, snapshot, history, text -/
abbrev aGl : Type := aS × Bool × aS × (Nat × (Nat → aS)) × (Nat × (Nat → Int32))
def gcur (G : aGl) : aS := G.1
def gkep (G : aGl) : Bool := G.2.1
def gsnp (G : aGl) : aS := G.2.2.1
def ghis (G : aGl) : Nat × (Nat → aS) := G.2.2.2.1
def gtxt (G : aGl) : Nat × (Nat → Int32) := G.2.2.2.2
def gG (G : aGl) : Prop := good (gcur G) ∧ (gkep G = true → good (gsnp G)) ∧ (ghis G).1 ≤ 4 ∧ (∀ i, i < (ghis G).1 → good ((ghis G).2 i)) ∧ (gtxt G).1 ≤ 60
/-- the class holds G -/
def seeG (C : Nat → Nat → Int32) (p : Nat → Option Nat) (G : aGl) : Prop := sees 1 C (gcur G) ∧ C 0 2 = bI (gkep G) ∧ (gkep G = true → sees 11 C (gsnp G)) ∧ (C 21 1 = nI (ghis G).1 ∧ (ghis G).1 ≤ 4) ∧ C 63 1 = nI (gtxt G).1 ∧ C 64 = (gtxt G).2 ∧ (∀ j, j = 23 ∨ j = 33 ∨ j = 43 ∨ j = 53 → ∀ i, i < 288 → C (j + 9) i = 0 ∨ C (j + 9) i = 1) ∧ ∃ q, hst p q ∧ ∀ i, i < (ghis G).1 → sees (q i) C ((ghis G).2 i)
/-- only these differ: nothing of what seeG speaks -/
theorem seeG_congr {C C' : Nat → Nat → Int32} {p : Nat → Option Nat} {G : aGl} (h : ∀ x, x < 63 → C' x = C x) (h1 : C' 63 1 = C 63 1) (h2 : C' 64 = C 64) (hs : seeG C p G) : seeG C' p G := by
  obtain ⟨a, b, c, e, f, g, i, q, hq, j⟩ := hs
  refine ⟨sees_congr (fun x _ hx => h x (by omega)) a, ?_, fun hk => sees_congr (fun x _ hx => h x (by omega)) (c hk), ?_, ?_, ?_, ?_, q, hq, ?_⟩
  · rw [h 0 (by decide)]; exact b
  · rw [h 21 (by decide)]; exact e
  · rw [h1]; exact f
  · rw [h2]; exact g
  · intro z hz
    rw [h (z + 9) (by omega)]
    exact i z hz
  · intro z hz
    refine sees_congr (fun x _ hx => h x ?_) (j z hz)
    have := (hq.1 z (by omega)).2
    omega
theorem seeG_agR {C C' : Nat → Nat → Int32} {p : Nat → Option Nat} {G : aGl} (h : agR C' C) (hs : seeG C p G) : seeG C' p G :=
  seeG_congr (fun x hx => h x (by omega)) (by rw [h 63 (by decide)]) (h 64 (by decide)) hs
/-- the history after record -/
def recH (H : Nat × (Nat → aS)) (A : aS) : Nat × (Nat → aS) := if H.1 = 4 then (4, fun i => if i = 3 then A else H.2 (i + 1)) else (H.1 + 1, fun i => if i = H.1 then A else H.2 i)
def gcs (G : aGl) (A : aS) : aGl := (A, gkep G, gsnp G, ghis G, gtxt G)
/-- record, and then a new state -/
def grec (G : aGl) (A : aS) : aGl := (A, gkep G, gsnp G, recH (ghis G) (gcur G), gtxt G)
