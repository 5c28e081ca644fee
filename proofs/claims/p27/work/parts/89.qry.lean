/-! WHAT IS ASKED, BY NUMBER; SETS OF BITS -/
section
variable {G : aGl} {un rn : Nat}
theorem hsA_nI {A : aS} (hu : un < 5000) : hsA A (nI un) = decide (un < A.1) := by
  unfold hsA
  rw [nI_toI hu]
  congr 1
  apply propext
  omega
theorem hrA_nI {A : aS} (hu : un < 5000) (hr : rn < 5000) : hrA A (nI un) (nI rn) = decide (un < A.1 ∧ rn < aR A un) := by
  unfold hrA
  rw [hsA_nI hu, nI_toI hr, cn_nI hu]
  by_cases h1 : un < A.1 <;> by_cases h2 : rn < aR A un <;> simp [h1, h2]
theorem hr_t (hg : gG G) (hu : un < (gcur G).1) (hr : rn < aR (gcur G) un) : hrA (gcur G) (nI un) (nI rn) = true := by
  have h4 := hg.1.1
  have h6 := (hg.1.2.2.2.1 un (by omega)).1
  rw [hrA_nI (by omega) (by omega)]
  exact decide_eq_true ⟨hu, hr⟩
theorem qR_no {w : Int32} (h : hrA (gcur G) (nI un) (nI rn) = false) : qRound G (nI un) (nI rn) w = -2000001 := by
  rw [qRound, if_pos h]
/-- the round is there -/
def there (G : aGl) (un rn : Nat) : Prop := un < (gcur G).1 ∧ rn < aR (gcur G) un ∧ un < 4 ∧ rn < 6 ∧ aR (gcur G) un ≤ 6 ∧ hrA (gcur G) (nI un) (nI rn) = true
theorem there_i (hg : gG G) (hu : un < (gcur G).1) (hr : rn < aR (gcur G) un) : there G un rn := by
  have h4 := hg.1.1
  have h6 := (hg.1.2.2.2.1 un (by omega)).1
  exact ⟨hu, hr, by omega, by omega, h6, hr_t hg hu hr⟩
theorem qR_n {f : Nat} (h : there G un rn) (hf : f < 2) : qRound G (nI un) (nI rn) (nI f) = nI (aF (gcur G) ((un * 6 + rn) * 2 + f)).1 := by
  obtain ⟨h1, h2, h3, h4, h5, h6⟩ := h
  have e : nI f = 0 ∨ nI f = 1 := by
    obtain rfl | rfl : f = 0 ∨ f = 1 := by omega
    · exact Or.inl rfl
    · exact Or.inr rfl
  rw [qRound, if_neg (by rw [h6]; decide), if_neg (by rw [nI_toI (by omega)]; intro h; apply h; omega), if_pos e, rwx_nI h3 h4 hf]
theorem qR_d {f : Nat} (h : there G un rn) (hf : f < 2) : qRound G (nI un) (nI rn) (2 + nI f) = if (aF (gcur G) ((un * 6 + rn) * 2 + f)).2.2.2.2 = -1 then -2000005 else drf (aF (gcur G) ((un * 6 + rn) * 2 + f)) := by
  obtain ⟨h1, h2, h3, h4, h5, h6⟩ := h
  have e : (2 + nI f : Int32) = 2 ∨ (2 + nI f : Int32) = 3 := by
    obtain rfl | rfl : f = 0 ∨ f = 1 := by omega
    · exact Or.inl rfl
    · exact Or.inr rfl
  have e1 : ¬ ((2 + nI f : Int32) = 0 ∨ (2 + nI f : Int32) = 1) := by rcases e with e | e <;> rw [e] <;> decide
  have e2 : ¬ ¬ (0 ≤ (2 + nI f : Int32).toInt ∧ (2 + nI f : Int32).toInt ≤ 7) := by rcases e with e | e <;> rw [e] <;> decide
  have e3 : (2 + nI f : Int32) - 2 = nI f := by
    obtain rfl | rfl : f = 0 ∨ f = 1 := by omega
    · rfl
    · rfl
  rw [qRound, if_neg (by rw [h6]; decide), if_neg e2, if_neg e1, if_pos e, e3, rwx_nI h3 h4 hf]
theorem qR_4 (h : there G un rn) : qRound G (nI un) (nI rn) 4 = bs (us (GA (gcur G) un) rn) 6 := by
  obtain ⟨h1, h2, h3, h4, h5, h6⟩ := h
  rw [qRound, if_neg (by rw [h6]; decide), if_neg (by decide), if_neg (by decide), if_neg (by decide), if_pos rfl, cn_nI (by omega), cn_nI (by omega)]
theorem qR_5 (h : there G un rn) : qRound G (nI un) (nI rn) 5 = nI (skn (aF (gcur G) ((un * 6 + rn) * 2)) + skn (aF (gcur G) ((un * 6 + rn) * 2 + 1))) := by
  obtain ⟨h1, h2, h3, h4, h5, h6⟩ := h
  rw [qRound, if_neg (by rw [h6]; decide), if_neg (by decide), if_neg (by decide), if_neg (by decide), if_neg (by decide), if_pos rfl]
  unfold skR
  rw [show (0 : Int32) = nI 0 from rfl, show (1 : Int32) = nI 1 from rfl, rwx_nI h3 h4 (by decide), rwx_nI h3 h4 (by decide)]
  rfl
theorem qR_6 (h : there G un rn) : qRound G (nI un) (nI rn) 6 = if (msd (GA (gcur G) un) rn 6).1 = 0 then -2000005 else fdv (msd (GA (gcur G) un) rn 6).2 (nI (msd (GA (gcur G) un) rn 6).1) := by
  obtain ⟨h1, h2, h3, h4, h5, h6⟩ := h
  rw [qRound, if_neg (by rw [h6]; decide), if_neg (by decide), if_neg (by decide), if_neg (by decide), if_neg (by decide), if_neg (by decide), if_pos rfl, cn_nI (by omega), cn_nI (by omega)]
theorem qR_7 (h : there G un rn) : qRound G (nI un) (nI rn) 7 = bs (bad (GA (gcur G) un) (aR (gcur G) un) (gcur G).2.1 rn) 6 := by
  obtain ⟨h1, h2, h3, h4, h5, h6⟩ := h
  rw [qRound, if_neg (by rw [h6]; decide), if_neg (by decide), if_neg (by decide), if_neg (by decide), if_neg (by decide), if_neg (by decide), if_neg (by decide), cn_nI (by omega), cn_nI (by omega)]
theorem isT_nI {t : Nat} (ht : t < 6) : isT (nI t) = true := by
  unfold isT
  rw [nI_toI (by omega)]
  exact decide_eq_true (by omega)
theorem qd_3 {t : Nat} (h : there G un rn) (ht : t < 6) : qReduced G (nI un) (nI rn) (nI t) 3 = nI (why (aF (gcur G) ((un * 6 + rn) * 2)) (aF (gcur G) ((un * 6 + rn) * 2 + 1)) (nI t)) := by
  obtain ⟨h1, h2, h3, h4, h5, h6⟩ := h
  rw [qReduced, if_neg (by rw [h6]; decide), if_neg (by rw [isT_nI ht]; decide), if_neg (by decide), if_pos rfl]
  rw [show (0 : Int32) = nI 0 from rfl, show (1 : Int32) = nI 1 from rfl, rwx_nI h3 h4 (by decide), rwx_nI h3 h4 (by decide)]
  rfl
theorem qd_1 {t : Nat} (h : there G un rn) (ht : t < 6) : qReduced G (nI un) (nI rn) (nI t) 1 = if us (GA (gcur G) un) rn t = true then lef (GA (gcur G) un) (aR (gcur G) un) rn t else -2000005 := by
  obtain ⟨h1, h2, h3, h4, h5, h6⟩ := h
  rw [qReduced, if_neg (by rw [h6]; decide), if_neg (by rw [isT_nI ht]; decide), if_neg (by decide), if_neg (by decide), if_neg (show ¬ (1 : Int32) = 0 by decide), if_pos rfl, cn_nI (by omega), cn_nI (by omega), cn_nI (by omega)]
  cases us (GA (gcur G) un) rn t <;> rfl
theorem qd_0 {t : Nat} (h : there G un rn) (ht : t < 6) : qReduced G (nI un) (nI rn) (nI t) 0 = if us (GA (gcur G) un) rn t = true then reR (GA (gcur G) un) rn t else -2000005 := by
  obtain ⟨h1, h2, h3, h4, h5, h6⟩ := h
  rw [qReduced, if_neg (by rw [h6]; decide), if_neg (by rw [isT_nI ht]; decide), if_neg (by decide), if_neg (by decide), if_pos (show (0 : Int32) = 0 from rfl), cn_nI (by omega), cn_nI (by omega), cn_nI (by omega)]
  cases us (GA (gcur G) un) rn t <;> rfl
theorem qD_4 {t : Nat} (hu : un < (gcur G).1) (h4 : un < 4) (ht : t < 6) : qDirection G (nI un) (nI t) 4 = bs (fun r => us (GA (gcur G) un) r t) (aR (gcur G) un) := by
  rw [qDirection, if_neg (by rw [hsA_nI (by omega), decide_eq_true hu]; decide), if_neg (by rw [isT_nI ht]; decide), if_neg (by decide), if_pos rfl, cn_nI (by omega), cn_nI (by omega)]
theorem qD_w {t : Nat} {w : Int32} (hu : un < (gcur G).1) (h4 : un < 4) (ht : t < 6) (hw : ¬ ¬ (0 ≤ w.toInt ∧ w.toInt ≤ 4)) (hw4 : ¬ w = 4) : qDirection G (nI un) (nI t) w = match dirA (gcur G) un t with
  | none => -2000005
  | some x => if w = 0 then x else if w = 1 then crn (gcur G) un t x else if w = 2 then cdr (gcur G) un t x else mls (GA (gcur G) un) (aR (gcur G) un) t (aR (gcur G) un) := by
  rw [qDirection, if_neg (by rw [hsA_nI (by omega), decide_eq_true hu]; decide), if_neg (by rw [isT_nI ht]; decide), if_neg hw, if_neg hw4, cn_nI (by omega), cn_nI (by omega)]
  cases dirA (gcur G) un t <;> rfl
end
set_option maxRecDepth 100000 in
theorem bs6_or : ∀ b0 b1 b2 b3 b4 b5 c0 c1 c2 c3 c4 c5 : Bool, bs6 b0 b1 b2 b3 b4 b5 ||| bs6 c0 c1 c2 c3 c4 c5 = bs6 (b0 || c0) (b1 || c1) (b2 || c2) (b3 || c3) (b4 || c4) (b5 || c5) := by decide +kernel
theorem bs_or (b c : Nat → Bool) : bs b 6 ||| bs c 6 = bs (fun t => b t || c t) 6 := by rw [bs_six, bs_six, bs_six, bs6_or]
set_option maxRecDepth 100000 in
theorem bs6_z : ∀ b0 b1 b2 b3 b4 b5 : Bool, (bs6 b0 b1 b2 b3 b4 b5 = 0 ↔ b0 = false ∧ b1 = false ∧ b2 = false ∧ b3 = false ∧ b4 = false ∧ b5 = false) ∧ (bs6 b0 b1 b2 b3 b4 b5 ≤ 0 → bs6 b0 b1 b2 b3 b4 b5 = 0) := by decide +kernel
theorem bs_z (b : Nat → Bool) : (bs b 6 = 0 ↔ ∀ t, t < 6 → b t = false) ∧ (bs b 6 ≤ 0 → bs b 6 = 0) := by
  rw [bs_six]
  obtain ⟨h1, h2⟩ := bs6_z (b 0) (b 1) (b 2) (b 3) (b 4) (b 5)
  refine ⟨h1.trans ⟨fun h t ht => ?_, fun h => ⟨h 0 (by decide), h 1 (by decide), h 2 (by decide), h 3 (by decide), h 4 (by decide), h 5 (by decide)⟩⟩, h2⟩
  obtain ⟨a0, a1, a2, a3, a4, a5⟩ := h
  match t, ht with
  | 0, _ => exact a0
  | 1, _ => exact a1
  | 2, _ => exact a2
  | 3, _ => exact a3
  | 4, _ => exact a4
  | 5, _ => exact a5
theorem bs_one {t : Nat} (ht : t < 6) : (1 : Int32) <<< (nI t &&& 31) = bs (fun x => decide (x = t)) 6 := by
  match t, ht with
  | 0, _ => decide
  | 1, _ => decide
  | 2, _ => decide
  | 3, _ => decide
  | 4, _ => decide
  | 5, _ => decide
theorem bs_zero : (0 : Int32) = bs (fun _ => false) 6 := by decide
set_option maxRecDepth 100000 in
theorem bs6_sh : ∀ b0 b1 b2 b3 b4 b5 : Bool, ((bs6 b0 b1 b2 b3 b4 b5 >>> (nI 0 &&& 31)) &&& 1 = bI b0) ∧ ((bs6 b0 b1 b2 b3 b4 b5 >>> (nI 1 &&& 31)) &&& 1 = bI b1) ∧ ((bs6 b0 b1 b2 b3 b4 b5 >>> (nI 2 &&& 31)) &&& 1 = bI b2) ∧ ((bs6 b0 b1 b2 b3 b4 b5 >>> (nI 3 &&& 31)) &&& 1 = bI b3) ∧ ((bs6 b0 b1 b2 b3 b4 b5 >>> (nI 4 &&& 31)) &&& 1 = bI b4) ∧ ((bs6 b0 b1 b2 b3 b4 b5 >>> (nI 5 &&& 31)) &&& 1 = bI b5) := by decide +kernel
theorem bs_sh (b : Nat → Bool) {t : Nat} (ht : t < 6) : (bs b 6 >>> (nI t &&& 31)) &&& 1 = bI (b t) := by
  rw [bs_six]
  obtain ⟨h0, h1, h2, h3, h4, h5⟩ := bs6_sh (b 0) (b 1) (b 2) (b 3) (b 4) (b 5)
  match t, ht with
  | 0, _ => exact h0
  | 1, _ => exact h1
  | 2, _ => exact h2
  | 3, _ => exact h3
  | 4, _ => exact h4
  | 5, _ => exact h5
theorem bs_and1 (b : Nat → Bool) : bs b 6 &&& 1 = 0 ↔ b 0 = false := by
  have := bs_bit (b := b) (t := 0) (by decide)
  rw [show (1 : Int32) <<< (nI 0 &&& 31) = 1 by decide] at this
  exact this
/-- any of the first n -/
def orb (b : Nat → Nat → Bool) : Nat → Nat → Bool
  | 0, _ => false
  | n + 1, t => orb b n t || b n t
theorem orb_f {b : Nat → Nat → Bool} {t : Nat} : ∀ {n : Nat}, orb b n t = false ↔ ∀ r, r < n → b r t = false
  | 0 => ⟨fun _ r h => absurd h (Nat.not_lt_zero _), fun _ => rfl⟩
  | n + 1 => by
    have ih := orb_f (b := b) (t := t) (n := n)
    show (orb b n t || b n t) = false ↔ _
    rw [Bool.or_eq_false_iff, ih]
    refine ⟨fun h r hr => ?_, fun h => ⟨fun r hr => h r (by omega), h n (by omega)⟩⟩
    by_cases e : r = n
    · rw [e]; exact h.2
    · exact h.1 r (by omega)
