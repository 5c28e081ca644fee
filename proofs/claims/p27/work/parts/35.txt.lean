/-! A TEXT OF POINTINGS: L characters ch, read from the place a -/
def dg (L : Nat) (ch : Nat → Int32) (a : Nat) : Option Nat := if a < L ∧ 48 ≤ (ch a).toInt ∧ (ch a).toInt ≤ 57 then some ((ch a).toInt - 48).toNat else none
def skp (L : Nat) (ch : Nat → Int32) (c : Int32) (a : Nat) : Bool := decide (a < L ∧ ch a = c)
def numl (L : Nat) (ch : Nat → Int32) (most : Nat) : Nat → Nat → Nat → Nat × Nat
  | 0, a, v => (a, v)
  | n + 1, a, v => if v = 0 then (a, v) else match dg L ch a with
    | none => (a, v)
    | some e => if v * 10 + e ≤ most then numl L ch most n (a + 1) (v * 10 + e) else (a, v)
def num (L : Nat) (ch : Nat → Int32) (most a : Nat) : Nat × Option Nat := match dg L ch a with
  | none => (a, none)
  | some e => ((numl L ch most (L - (a + 1)) (a + 1) e).1, some (numl L ch most (L - (a + 1)) (a + 1) e).2)
def ang3 (L : Nat) (ch : Nat → Int32) (g m a : Nat) : Nat × Option Nat := match num L ch 59 a with
  | (b, none) => (b, none)
  | (b, some s) => (b, some ((g * 60 + m) * 60 + s))
def ang2 (L : Nat) (ch : Nat → Int32) (g a : Nat) : Nat × Option Nat := match num L ch 59 a with
  | (b, none) => (b, none)
  | (b, some m) => if skp L ch 58 b then ang3 L ch g m (b + 1) else (b, none)
def ang (L : Nat) (ch : Nat → Int32) (a : Nat) : Nat × Option Nat := match num L ch 359 a with
  | (b, none) => (b, none)
  | (b, some g) => if skp L ch 58 b then ang2 L ch g (b + 1) else (b, none)
def tgt (L : Nat) (ch : Nat → Int32) (a : Nat) : Option Nat := match dg L ch a with
  | none => none
  | some t => if t < 6 then some t else none
def fac (L : Nat) (ch : Nat → Int32) (a : Nat) : Option Nat := if skp L ch 108 a then some 0 else if skp L ch 114 a then some 1 else none
def ppt2 (L : Nat) (ch : Nat → Int32) (t f a : Nat) : Nat × Option (Nat × Nat × Nat) := match ang L ch a with
  | (b, none) => (b, none)
  | (b, some r) => (b, some (t, f, r))
/-- one pointing: where the reading stands then; target, face and reading, or none: a fault there -/
def ppt (L : Nat) (ch : Nat → Int32) (a : Nat) : Nat × Option (Nat × Nat × Nat) := match tgt L ch a with
  | none => (a, none)
  | some t => match fac L ch (a + 1) with
    | none => (a + 1, none)
    | some f => ppt2 L ch t f (a + 2)
/-- all pointings, at most n -/
def pall (L : Nat) (ch : Nat → Int32) : Nat → Nat → Nat × Option (List (Nat × Nat × Nat))
  | 0, a => (a, none)
  | n + 1, a => match ppt L ch a with
    | (b, none) => (b, none)
    | (b, some x) => if b = L then (b, some [x]) else if skp L ch 59 b then (match pall L ch n (b + 1) with
      | (c, none) => (c, none)
      | (c, some l) => (c, some (x :: l))) else (b, none)
theorem dg_some {L : Nat} {ch : Nat → Int32} {a e : Nat} (h : dg L ch a = some e) : a < L ∧ e ≤ 9 := by
  unfold dg at h
  split at h
  · rename_i hc
    cases h
    exact ⟨hc.1, by omega⟩
  · cases h
theorem numl_in {L : Nat} {ch : Nat → Int32} {most : Nat} : ∀ {n a v : Nat}, a ≤ L → v ≤ most → a ≤ (numl L ch most n a v).1 ∧ (numl L ch most n a v).1 ≤ L ∧ (numl L ch most n a v).2 ≤ most
  | 0, a, v, h1, h2 => ⟨Nat.le_refl _, h1, h2⟩
  | n + 1, a, v, h1, h2 => by
    unfold numl
    split
    · exact ⟨Nat.le_refl _, h1, h2⟩
    · split
      · exact ⟨Nat.le_refl _, h1, h2⟩
      · rename_i e he
        split
        · rename_i hm
          obtain ⟨q1, q2, q3⟩ := numl_in (L := L) (ch := ch) (most := most) (n := n) (a := a + 1) (v := v * 10 + e) (dg_some he).1 hm
          exact ⟨by omega, q2, q3⟩
        · exact ⟨Nat.le_refl _, h1, h2⟩
theorem num_in {L : Nat} {ch : Nat → Int32} {most a : Nat} (h9 : 9 ≤ most) (h1 : a ≤ L) : a ≤ (num L ch most a).1 ∧ (num L ch most a).1 ≤ L ∧ ∀ v, (num L ch most a).2 = some v → v ≤ most ∧ a < (num L ch most a).1 := by
  unfold num
  split
  · exact ⟨Nat.le_refl _, h1, fun v h => by cases h⟩
  · rename_i e he
    obtain ⟨q0, q9⟩ := dg_some he
    obtain ⟨q1, q2, q3⟩ := numl_in (L := L) (ch := ch) (most := most) (n := L - (a + 1)) (a := a + 1) (v := e) q0 (by omega)
    refine ⟨by show a ≤ (numl _ _ _ _ _ _).1; omega, q2, fun v h => ?_⟩
    cases h
    exact ⟨q3, by show a < (numl _ _ _ _ _ _).1; omega⟩
theorem skp_lt {L : Nat} {ch : Nat → Int32} {c : Int32} {a : Nat} (h : skp L ch c a = true) : a < L := by
  simp only [skp, decide_eq_true_eq] at h
  exact h.1
theorem ang_in {L : Nat} {ch : Nat → Int32} {a : Nat} (h1 : a ≤ L) : a ≤ (ang L ch a).1 ∧ (ang L ch a).1 ≤ L ∧ ∀ v, (ang L ch a).2 = some v → v < 1296000 ∧ a + 5 ≤ (ang L ch a).1 := by
  obtain ⟨p1, p2, p3⟩ := num_in (ch := ch) (most := 359) (by decide) h1
  unfold ang
  generalize num L ch 359 a = r1 at p1 p2 p3
  obtain ⟨b1, o1⟩ := r1
  cases o1 with
  | none => exact ⟨p1, p2, fun v h => by cases h⟩
  | some g =>
    obtain ⟨p4, p5⟩ := p3 g rfl
    dsimp only at p1 p2 p5 ⊢
    split
    · rename_i hs1
      have hl1 := skp_lt hs1
      obtain ⟨q1, q2, q3⟩ := num_in (ch := ch) (most := 59) (a := b1 + 1) (by decide) hl1
      unfold ang2
      generalize num L ch 59 (b1 + 1) = r2 at q1 q2 q3
      obtain ⟨b2, o2⟩ := r2
      cases o2 with
      | none => exact ⟨by dsimp only at q1 ⊢; omega, q2, fun v h => by cases h⟩
      | some m =>
        obtain ⟨q4, q5⟩ := q3 m rfl
        dsimp only at q1 q2 q5 ⊢
        split
        · rename_i hs2
          have hl2 := skp_lt hs2
          obtain ⟨t1, t2, t3⟩ := num_in (ch := ch) (most := 59) (a := b2 + 1) (by decide) hl2
          unfold ang3
          generalize num L ch 59 (b2 + 1) = r3 at t1 t2 t3
          obtain ⟨b3, o3⟩ := r3
          cases o3 with
          | none => exact ⟨by dsimp only at t1 ⊢; omega, t2, fun v h => by cases h⟩
          | some z =>
            obtain ⟨t4, t5⟩ := t3 z rfl
            dsimp only at t1 t2 t5 ⊢
            refine ⟨by omega, t2, fun v h => ?_⟩
            cases h
            omega
        · exact ⟨by dsimp only; omega, q2, fun v h => by cases h⟩
    · exact ⟨p1, p2, fun v h => by cases h⟩
theorem ppt_in {L : Nat} {ch : Nat → Int32} {a : Nat} (h1 : a ≤ L) : (ppt L ch a).1 ≤ L ∧ ∀ x, (ppt L ch a).2 = some x → x.1 < 6 ∧ x.2.1 < 2 ∧ x.2.2 < 1296000 ∧ a + 7 ≤ (ppt L ch a).1 := by
  unfold ppt
  cases ht : tgt L ch a with
  | none => exact ⟨h1, fun x h => by cases h⟩
  | some t =>
    have ht6 : a < L ∧ t < 6 := by
      unfold tgt at ht
      split at ht
      · cases ht
      · rename_i e he
        split at ht
        · cases ht
          exact ⟨(dg_some he).1, by assumption⟩
        · cases ht
    dsimp only
    cases hf : fac L ch (a + 1) with
    | none => exact ⟨ht6.1, fun x h => by cases h⟩
    | some f =>
      have hf2 : a + 1 < L ∧ f < 2 := by
        unfold fac at hf
        split at hf
        · rename_i hs
          cases hf
          exact ⟨skp_lt hs, by decide⟩
        · split at hf
          · rename_i hs
            cases hf
            exact ⟨skp_lt hs, by decide⟩
          · cases hf
      dsimp only
      unfold ppt2
      obtain ⟨q1, q2, q3⟩ := ang_in (ch := ch) (a := a + 2) hf2.1
      generalize ang L ch (a + 2) = r at q1 q2 q3
      obtain ⟨b, o⟩ := r
      cases o with
      | none => exact ⟨q2, fun x h => by cases h⟩
      | some z =>
        obtain ⟨q4, q5⟩ := q3 z rfl
        dsimp only at q1 q2 q5 ⊢
        refine ⟨q2, fun x h => ?_⟩
        cases h
        exact ⟨ht6.2, hf2.2, q4, by omega⟩
/-! PointingText -/
def atC (C : Nat → Nat → Int32) (a : Nat) : Nat → Nat → Int32 := am_u2 C 63 6 (nI a)
theorem atC_at {C : Nat → Nat → Int32} {a : Nat} : atC C a 63 6 = nI a := by simp [atC, am_u2]
theorem atC_1 {C : Nat → Nat → Int32} {a : Nat} : atC C a 63 1 = C 63 1 := by simp [atC, am_u2]
theorem atC_5 {C : Nat → Nat → Int32} {a : Nat} : atC C a 63 5 = C 63 5 := by simp [atC, am_u2]
theorem atC_64 {C : Nat → Nat → Int32} {a i : Nat} : atC C a 64 i = C 64 i := by simp [atC, am_u2]
theorem atC_up {C : Nat → Nat → Int32} {a b : Nat} : am_u2 (atC C a) 63 6 (nI b) = atC C b := by
  funext x i
  simp only [atC, am_u2_at]
  split <;> rfl
section
variable {d : Nat} {C : Nat → Nat → Int32} {p : Nat → Option Nat} {L a : Nat}
theorem nI_sub48 {x : Int32} (h1 : 48 ≤ x.toInt) (h2 : x.toInt ≤ 57) : x - 48 = nI (x.toInt - 48).toNat := by
  apply Int32.toInt_inj.mp
  rw [nI_toI (by omega), Int32.toInt_sub]
  have e : (48 : Int32).toInt = 48 := by decide
  rw [e, Int.bmod_eq_of_le (by omega) (by omega)]
  omega
theorem dg_m1 {L a : Nat} {ch : Nat → Int32} : oI (-1) (dg L ch a) = -1 ↔ dg L ch a = none := oI_none (n := 10) (by decide) (fun k hk => by have := (dg_some hk).2; omega)
theorem ix10 (v e : Nat) : nI v * (10 : Int32) + nI e = nI (v * 10 + e) := by
  rw [show (10 : Int32) = nI 10 from rfl, nI_mul, nI_add]
theorem num_m1 {L a most : Nat} {ch : Nat → Int32} (hm : 9 ≤ most) (hm2 : most ≤ 400) (ha : a ≤ L) : oI (-1) (num L ch most a).2 = -1 ↔ (num L ch most a).2 = none := oI_none (n := 401) (by decide) (fun k hk => by have := ((num_in (ch := ch) hm ha).2.2 k hk).1; omega)
theorem ix60' (v e : Nat) : nI v * (60 : Int32) + nI e = nI (v * 60 + e) := by
  rw [show (60 : Int32) = nI 60 from rfl, nI_mul, nI_add]
end
