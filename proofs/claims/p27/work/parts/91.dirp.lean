/-! areDirectionsSo: the numbers -/
theorem nr_ne5 (x : Int32) : ¬ nr x = -2000005 := by
  intro e
  have h := nr_rg x
  rw [e, show (-2000005 : Int32).toInt = -2000005 from by decide] at h
  omega
theorem fmd_ne5 (x : Int32) : ¬ fmd x = -2000005 := (fmd_m1 x).2
theorem neg_toI {y : Int32} (h : -648000 ≤ y.toInt ∧ y.toInt ≤ 648000) : (-y).toInt = -y.toInt := by
  rw [Int32.toInt_neg]
  exact Int.bmod_eq_of_le (by omega) (by omega)
theorem av_toI {y : Int32} (h : -648000 ≤ y.toInt ∧ y.toInt ≤ 648000) : (0 ≤ y.toInt → av y = y) ∧ (y.toInt < 0 → av y = -y) ∧ 0 ≤ (av y).toInt := by
  have i0 : (0 : Int32).toInt = 0 := rfl
  have hn := neg_toI h
  have e : ∀ z : Int32, 0 - z = -z := fun z => Int32.zero_sub z
  unfold av
  by_cases h0 : 0 ≤ y
  · rw [if_pos h0]
    rw [Int32.le_iff_toInt_le, i0] at h0
    exact ⟨fun _ => rfl, fun h => absurd h (by omega), h0⟩
  · rw [if_neg h0, e]
    rw [Int32.le_iff_toInt_le, i0] at h0
    exact ⟨fun h => absurd h h0, fun _ => rfl, by omega⟩
theorem lef_rg (G : aG) (N r t : Nat) : -648000 ≤ (lef G N r t).toInt ∧ (lef G N r t).toInt ≤ 648000 := by
  have := nr_rg (reR G r t - dirI G N t)
  unfold lef
  omega
theorem mls_nn (G : aG) (N t : Nat) : ∀ r, 0 ≤ (mls G N t r).toInt
  | 0 => by show (0 : Int) ≤ (0 : Int32).toInt; decide
  | r + 1 => by
    have ih := mls_nn G N t r
    rw [mls_s]
    split
    · unfold lws
      split
      · exact (av_toI (lef_rg G N r t)).2.2
      · decide
    · exact ih
theorem step_most {m y : Int32} (hm : 0 ≤ m.toInt) (hy : -648000 ≤ y.toInt ∧ y.toInt ≤ 648000) : (if m < av y then av y else m) = (if y ≤ m then (if -y ≤ m then m else -y) else y) := by
  obtain ⟨h1, h2, h3⟩ := av_toI hy
  have hn := neg_toI hy
  by_cases a : y ≤ m
  · rw [if_pos a]
    rw [Int32.le_iff_toInt_le] at a
    by_cases b : -y ≤ m
    · rw [if_pos b]
      rw [Int32.le_iff_toInt_le, hn] at b
      by_cases c : 0 ≤ y.toInt
      · rw [h1 c, if_neg (by rw [Int32.lt_iff_toInt_lt]; omega)]
      · rw [h2 (by omega), if_neg (by rw [Int32.lt_iff_toInt_lt, hn]; omega)]
    · rw [if_neg b]
      rw [Int32.le_iff_toInt_le, hn] at b
      rw [h2 (by omega), if_pos (by rw [Int32.lt_iff_toInt_lt, hn]; omega)]
  · rw [if_neg a]
    rw [Int32.le_iff_toInt_le] at a
    rw [h1 (by omega), if_pos (by rw [Int32.lt_iff_toInt_lt]; omega)]
theorem bs_pad {b : Nat → Bool} {N : Nat} : ∀ k, bs (fun r => decide (r < N) && b r) (N + k) = bs b N
  | 0 => bs_congr (fun j hj => by
    have hj' : j < N := hj
    simp [hj'])
  | k + 1 => by
    rw [show N + (k + 1) = (N + k) + 1 from rfl, bs_s, bs_pad k]
    rw [if_neg (by show ¬ ((decide (N + k < N) && b (N + k)) = true); rw [decide_eq_false (show ¬ N + k < N by omega)]; simp)]
theorem bs_zN {b : Nat → Bool} {N : Nat} (h6 : N ≤ 6) : bs b N = 0 ↔ ∀ r, r < N → b r = false := by
  have e := bs_pad (b := b) (N := N) (6 - N)
  rw [show N + (6 - N) = 6 by omega] at e
  rw [← e, (bs_z _).1]
  refine ⟨fun h r hr => ?_, fun h r _ => ?_⟩
  · have := h r (by omega)
    simpa [hr] using this
  · by_cases hr : r < N
    · simp [hr, h r hr]
    · simp [hr]
theorem dirO_z {G : aG} {N t : Nat} (h6 : N ≤ 6) : bs (fun r => us G r t) N = 0 ↔ dirO G N t = none := by
  rw [bs_zN h6]
  constructor
  · intro h
    refine dirO_none (Classical.byContradiction fun hc => ?_)
    obtain ⟨r, hr, hu⟩ := dst_ex hc
    rw [h r hr] at hu
    cases hu
  · intro h r hr
    cases hu : us G r t with
    | false => rfl
    | true =>
      have := dst_pos hr hu
      rw [dirO_some (by omega)] at h
      cases h
theorem dirO_rg {G : aG} {N t : Nat} {x : Int32} (h : dirO G N t = some x) : 0 ≤ x.toInt ∧ x.toInt < 1296000 := by
  by_cases hc : (dst G t N).1 = 0
  · rw [dirO_none hc] at h
    cases h
  · rw [dirO_some hc] at h
    cases h
    exact ⟨fmd_lo _, fmd_hi _⟩
theorem ang_z {x y : Int32} (hx : 0 ≤ x.toInt ∧ x.toInt < 1296000) (hy : 0 ≤ y.toInt ∧ y.toInt < 1296000) : fmd (fmd (y - x) + fmd (x - y)) = 0 := by
  have e1 : (y - x).toInt = y.toInt - x.toInt := by
    rw [Int32.toInt_sub]
    exact Int.bmod_eq_of_le (by omega) (by omega)
  have e2 : (x - y).toInt = x.toInt - y.toInt := by
    rw [Int32.toInt_sub]
    exact Int.bmod_eq_of_le (by omega) (by omega)
  have a := fmd_int (y - x)
  have b := fmd_int (x - y)
  rw [e1] at a
  rw [e2] at b
  have c : (fmd (y - x) + fmd (x - y)).toInt = (fmd (y - x)).toInt + (fmd (x - y)).toInt := by
    rw [Int32.toInt_add]
    exact Int.bmod_eq_of_le (by omega) (by omega)
  unfold fmd at *
  rw [c, a, b]
  have : ((y.toInt - x.toInt) % 1296000 + (x.toInt - y.toInt) % 1296000) % 1296000 = 0 := by omega
  rw [this]
  rfl
theorem crn_z {A : aS} {u t : Nat} {x : Int32} (h : aO A u = 0) : crn A u t x = 0 := by
  unfold crn
  rw [h]
  simp
theorem cdr_0 {A : aS} {u : Nat} : cdr A u 0 0 = 0 := by
  unfold cdr
  rw [show (0 : Int32) + crn A u 0 0 - crn A u 0 0 = 0 by simp]
  decide
def dv (A : aS) (u t : Nat) : Int32 := oD (-2000005) (dirA A u t)
section
variable {G : aGl} {un : Nat}
theorem qD_0 {t : Nat} (hu : un < (gcur G).1) (h4 : un < 4) (ht : t < 6) : qDirection G (nI un) (nI t) 0 = dv (gcur G) un t := by
  rw [qD_w hu h4 ht (by decide) (by decide), dv]
  cases dirA (gcur G) un t <;> rfl
theorem qD_1 {t : Nat} {x : Int32} (hu : un < (gcur G).1) (h4 : un < 4) (ht : t < 6) (hx : dirA (gcur G) un t = some x) : qDirection G (nI un) (nI t) 1 = crn (gcur G) un t x := by
  rw [qD_w hu h4 ht (by decide) (by decide), hx]
  rfl
theorem qD_2 {t : Nat} {x : Int32} (hu : un < (gcur G).1) (h4 : un < 4) (ht : t < 6) (hx : dirA (gcur G) un t = some x) : qDirection G (nI un) (nI t) 2 = cdr (gcur G) un t x := by
  rw [qD_w hu h4 ht (by decide) (by decide), hx]
  rfl
theorem qD_3 {t : Nat} {x : Int32} (hu : un < (gcur G).1) (h4 : un < 4) (ht : t < 6) (hx : dirA (gcur G) un t = some x) : qDirection G (nI un) (nI t) 3 = mls (GA (gcur G) un) (aR (gcur G) un) t (aR (gcur G) un) := by
  rw [qD_w hu h4 ht (by decide) (by decide), hx]
  rfl
theorem qBy {t : Nat} (hu : un < (gcur G).1) (h4 : un < 4) (ht : t < 6) : qByAngles G (nI un) (nI t) = dv (gcur G) un t := by
  rw [qByAngles, if_neg (by rw [hsA_nI (by omega), decide_eq_true hu]; decide), if_neg (by rw [isT_nI ht]; decide), cn_nI (by omega), cn_nI (by omega), dv]
  cases dirA (gcur G) un t <;> rfl
theorem qA_n {a b : Nat} {w : Int32} (hu : un < (gcur G).1) (h4 : un < 4) (ha : a < 6) (hb : b < 6) (h : dirA (gcur G) un a = none ∨ dirA (gcur G) un b = none) : qAngle G (nI un) (nI a) (nI b) w = -2000005 := by
  rw [qAngle, if_neg (by rw [hsA_nI (by omega), decide_eq_true hu]; decide), if_neg (by rw [isT_nI ha]; decide), if_neg (by rw [isT_nI hb]; decide), cn_nI (by omega), cn_nI (by omega), cn_nI (by omega)]
  rcases h with h | h
  · rw [h]
  · rw [h]
    cases dirA (gcur G) un a <;> rfl
theorem qA_s {a b : Nat} {w x y : Int32} (hu : un < (gcur G).1) (h4 : un < 4) (ha : a < 6) (hb : b < 6) (hx : dirA (gcur G) un a = some x) (hy : dirA (gcur G) un b = some y) : qAngle G (nI un) (nI a) (nI b) w = if w = 0 then fmd (y - x) else fmd (cdr (gcur G) un b y - cdr (gcur G) un a x) := by
  rw [qAngle, if_neg (by rw [hsA_nI (by omega), decide_eq_true hu]; decide), if_neg (by rw [isT_nI ha]; decide), if_neg (by rw [isT_nI hb]; decide), cn_nI (by omega), cn_nI (by omega), cn_nI (by omega), hx, hy]
theorem qCe (hu : un < (gcur G).1) (h4 : un < 4) : qCentring G (nI un) 0 = aO (gcur G) un := by
  rw [qCentring, if_neg (by rw [hsA_nI (by omega), decide_eq_true hu]; decide), if_pos rfl, cn_nI (by omega)]
end
