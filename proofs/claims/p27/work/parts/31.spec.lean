/-! WHAT A FACE, A ROUND, A SET-UP SAY: the same words for the class and for the model -/
theorem cl {n : Nat} (h : n < 5000) : (nI n).toNatClampNeg = n := nI_clamp (by omega)
theorem vpi {n N : Nat} (h : n < N) (hN : N < 5000) : vp_in (nI n) N := vp_in_nI h (by omega)
theorem le5 {a b : Nat} (ha : a < 5000) (hb : b < 5000) : nI a ≤ nI b ↔ a ≤ b := nI_leI (by omega) (by omega)
theorem lt5 {a b : Nat} (ha : a < 5000) (hb : b < 5000) : nI a < nI b ↔ a < b := nI_ltI (by omega) (by omega)
theorem eq5 {a b : Nat} (ha : a < 5000) (hb : b < 5000) : nI a = nI b ↔ a = b := nI_eq (by omega) (by omega)
theorem ix6 (a b : Nat) : nI a * (6 : Int32) + nI b = nI (a * 6 + b) := by
  rw [show (6 : Int32) = nI 6 from rfl, nI_mul, nI_add]
theorem ix60 (a : Nat) : nI a * (6 : Int32) = nI (a * 6) := by
  rw [show (6 : Int32) = nI 6 from rfl, nI_mul]
theorem nI_toI {n : Nat} (h : n < 5000) : (nI n).toInt = (n : Int) := nI_toInt (by omega)
theorem nI_ne {n : Nat} (h : n < 5000) : nI n ≠ -1 ∧ nI n ≠ -2000005 := by
  constructor <;> intro e <;> have := congrArg Int32.toInt e <;> rw [nI_toI h] at this
  · have h2 : (-1 : Int32).toInt = -1 := by decide
    omega
  · have h2 : (-2000005 : Int32).toInt = -2000005 := by decide
    omega
def oI (e : Int32) : Option Nat → Int32
  | some k => nI k
  | none => e
def bI (b : Bool) : Int32 := if b then 1 else 0
theorem bI01 (b : Bool) : bI b = 0 ∨ bI b = 1 := by cases b <;> simp [bI]
theorem bI_t : bI true = 1 := rfl
theorem bI_f : bI false = 0 := rfl
theorem bI_ne {b : Bool} : ¬ bI b = 0 ↔ b = true := by cases b <;> simp [bI]
theorem bI_eq {b : Bool} : bI b = 0 ↔ b = false := by cases b <;> simp [bI]
def fd (tg : Nat → Int32) (t : Int32) : Nat → Nat → Option Nat
  | _, 0 => none
  | k, m + 1 => if tg k = t then some k else fd tg t (k + 1) m
theorem fd_some {tg : Nat → Int32} {t : Int32} : ∀ {m k j : Nat}, fd tg t k m = some j → k ≤ j ∧ j < k + m ∧ tg j = t
  | 0, k, j, h => by cases h
  | m + 1, k, j, h => by
    unfold fd at h
    by_cases e : tg k = t
    · rw [if_pos e] at h
      cases h
      exact ⟨Nat.le_refl _, by omega, e⟩
    · rw [if_neg e] at h
      obtain ⟨h1, h2, h3⟩ := fd_some h
      exact ⟨by omega, by omega, h3⟩
theorem fd_none {tg : Nat → Int32} {t : Int32} : ∀ {m k : Nat}, fd tg t k m = none → ∀ j, k ≤ j → j < k + m → tg j ≠ t
  | 0, k, _, j, h1, h2 => by omega
  | m + 1, k, h, j, h1, h2 => by
    unfold fd at h
    by_cases e : tg k = t
    · rw [if_pos e] at h
      cases h
    · rw [if_neg e] at h
      by_cases hj : j = k
      · rw [hj]; exact e
      · exact fd_none h j (by omega) (by omega)
theorem fd_congr {f g : Nat → Int32} {t : Int32} : ∀ {m k : Nat}, (∀ j, k ≤ j → j < k + m → f j = g j) → fd f t k m = fd g t k m
  | 0, _, _ => rfl
  | m + 1, k, h => by
    unfold fd
    rw [h k (Nat.le_refl _) (by omega), fd_congr (m := m) (k := k + 1) (fun j h1 h2 => h j (by omega) (by omega))]
/-- a face: how many pointings; their targets, readings, whether struck (by place); the closing, -1 without one -/
abbrev aFace : Type := Nat × (Nat → Int32) × (Nat → Int32) × (Nat → Int32) × Int32
def cut (n : Nat) (f : Nat → Int32) : Nat → Int32 := fun k => if k < n then f k else 0
theorem cut_lt {n k : Nat} {f : Nat → Int32} (h : k < n) : cut n f k = f k := if_pos h
/-- the face in the row of a State at o -/
def fS (o : Nat) (C : Nat → Nat → Int32) (row : Nat) : aFace := ((C (o + 5) row).toNatClampNeg, cut (C (o + 5) row).toNatClampNeg (fun k => C (o + 7) (row * 6 + k)), cut (C (o + 5) row).toNatClampNeg (fun k => C (o + 8) (row * 6 + k)), cut (C (o + 5) row).toNatClampNeg (fun k => C (o + 9) (row * 6 + k)), C (o + 6) row)
theorem fS_tg {o : Nat} {C : Nat → Nat → Int32} {row k : Nat} (h : k < (fS o C row).1) : (fS o C row).2.1 k = C (o + 7) (row * 6 + k) := if_pos h
theorem fS_rd {o : Nat} {C : Nat → Nat → Int32} {row k : Nat} (h : k < (fS o C row).1) : (fS o C row).2.2.1 k = C (o + 8) (row * 6 + k) := if_pos h
theorem fS_sk {o : Nat} {C : Nat → Nat → Int32} {row k : Nat} (h : k < (fS o C row).1) : (fS o C row).2.2.2.1 k = C (o + 9) (row * 6 + k) := if_pos h
/-- the face at b of a row of numbers of the model -/
def fM (s : Nat → Int32) (b : Nat) : aFace := ((s b).toNatClampNeg, cut (s b).toNatClampNeg (fun k => s (b + 3 + 3 * k)), cut (s b).toNatClampNeg (fun k => s (b + 4 + 3 * k)), cut (s b).toNatClampNeg (fun k => s (b + 5 + 3 * k)), if s (b + 1) = 1 then s (b + 2) else -1)
theorem fM_tg {s : Nat → Int32} {b k : Nat} (h : k < (fM s b).1) : (fM s b).2.1 k = s (b + 3 + 3 * k) := if_pos h
theorem fM_rd {s : Nat → Int32} {b k : Nat} (h : k < (fM s b).1) : (fM s b).2.2.1 k = s (b + 4 + 3 * k) := if_pos h
theorem fM_sk {s : Nat → Int32} {b k : Nat} (h : k < (fM s b).1) : (fM s b).2.2.2.1 k = s (b + 5 + 3 * k) := if_pos h
/-- a good face -/
def fok (f : aFace) : Prop := f.1 ≤ 6 ∧ (f.2.2.2.2 ≠ -1 → 1 ≤ f.1) ∧ (∀ k, k < f.1 → f.2.2.2.1 k = 0 ∨ f.2.2.2.1 k = 1) ∧ (∀ k, k < f.1 → ∃ t, t < 6 ∧ f.2.1 k = nI t) ∧ (∀ j k, j < f.1 → k < f.1 → f.2.1 j = f.2.1 k → j = k)
def plc (f : aFace) (t : Int32) : Option Nat := fd f.2.1 t 0 f.1
theorem plc_lt {f : aFace} {t : Int32} {k : Nat} (h : plc f t = some k) : k < f.1 ∧ f.2.1 k = t := by
  obtain ⟨-, h2, h3⟩ := fd_some h
  exact ⟨by omega, h3⟩
def drf (f : aFace) : Int32 := nr (f.2.2.2.2 - f.2.2.1 0)
def cor (f : aFace) (k : Nat) : Int32 := if f.2.2.2.2 = -1 then f.2.2.1 k else f.2.2.1 k - fdv (drf f * nI k) (nI f.1)
def own (f g : aFace) (t : Int32) : Nat := match plc f t, plc g t with
  | none, _ => 1
  | some _, none => 2
  | some a, some b => if f.2.2.2.1 a = 0 ∧ g.2.2.2.1 b = 0 then 0 else 3
def why (f g : aFace) (t : Int32) : Nat := if own f g t ≠ 0 ∨ t = 0 then own f g t else if own f g 0 = 0 then 0 else 4
def cot (f : aFace) (t : Int32) : Int32 := match plc f t with
  | some k => cor f k
  | none => 0
def apt (f g : aFace) (t : Int32) : Int32 := nr (cot g t - 648000 - cot f t)
def mea (f g : aFace) (t : Int32) : Int32 := cot f t + fdv (apt f g t) 2
def sgt (f g : aFace) (t : Int32) : Int32 := fdv (-(apt f g t)) 2
def red (f g : aFace) (t : Int32) : Int32 := fmd (mea f g t - mea f g 0)
/-- how many of f at k .. k + m are not 0 -/
def cnt (f : Nat → Int32) : Nat → Nat → Nat
  | _, 0 => 0
  | k, m + 1 => (if f k = 0 then 0 else 1) + cnt f (k + 1) m
theorem cnt_le (f : Nat → Int32) : ∀ (m k : Nat), cnt f k m ≤ m
  | 0, _ => Nat.le_refl _
  | m + 1, k => by
    have := cnt_le f m (k + 1)
    unfold cnt
    split <;> omega
theorem cnt_congr {f g : Nat → Int32} : ∀ {m k : Nat}, (∀ j, k ≤ j → j < k + m → f j = g j) → cnt f k m = cnt g k m
  | 0, _, _ => rfl
  | m + 1, k, h => by
    unfold cnt
    rw [h k (Nat.le_refl _) (by omega), cnt_congr (m := m) (k := k + 1) (fun j h1 h2 => h j (by omega) (by omega))]
def skn (f : aFace) : Nat := cnt f.2.2.2.1 0 f.1
/-- the sum of f at k .. k + m -/
def sm (f : Nat → Nat) : Nat → Nat → Nat
  | _, 0 => 0
  | k, m + 1 => f k + sm f (k + 1) m
theorem sm_le {f : Nat → Nat} {b : Nat} : ∀ {m k : Nat}, (∀ j, k ≤ j → j < k + m → f j ≤ b) → sm f k m ≤ b * m
  | 0, _, _ => Nat.zero_le _
  | m + 1, k, h => by
    have h1 := h k (Nat.le_refl _) (by omega)
    have h2 := sm_le (m := m) (k := k + 1) (fun j h1 h2 => h j (by omega) (by omega))
    unfold sm
    rw [Nat.mul_succ]
    omega
/-- the row of State at o says its count -/
def cok (o : Nat) (C : Nat → Nat → Int32) (row : Nat) : Prop := C (o + 5) row = nI (fS o C row).1 ∧ fok (fS o C row)
