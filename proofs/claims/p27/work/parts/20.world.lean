/-! THE WORLD BEHIND THE CONSTRUCTORS: the class's 74 cells at fixed places, and zN more of the law's own, rows of two numbers. C: the numbers by cell and place; p: what History.states holds.
0 FaceRounds; 1 its state (2 to 10 its arrays); 11 the snapshot; 21 History, 22 its states; 23, 33, 43, 53 its four states; 63 PointingText (64 characters, 65 targets, 66 faces, 67 readings); 68 Reckoning (69 used, 70 reduced, 71 errors, 72 left, 73 directions); 74 and on: the law's -/
variable {zN : Nat}
def am_shS : List (Nat × Nat) := [(0, 3), (2, 4), (2, 4), (2, 4), (2, 6), (2, 48), (2, 48), (2, 288), (2, 288), (3, 288)]
def am_shL : List (Nat × Nat) := [(0, 4)] ++ (am_shS ++ (am_shS ++ ([(0, 0), (4, 4)] ++ (am_shS ++ (am_shS ++ (am_shS ++ (am_shS ++ ([(0, 1), (1, 60), (2, 7), (2, 7), (2, 7)] ++ ([(0, 2), (2, 6), (2, 36), (2, 36), (2, 36), (2, 6)])))))))))
def am_sh (i : Nat) : Nat × Nat := am_shL.getD i (2, 2)
def am_ftS (i : Nat) : List (Option Nat) := [none, none, some (i + 1), some (i + 2), some (i + 3), some (i + 4), some (i + 5), some (i + 6), some (i + 7), some (i + 8), some (i + 9)]
def am_ft (i : Nat) : List (Option Nat) := match i with
  | 0 => [some 1, some 11, none, some 21, some 63, some 68]
  | 1 => am_ftS 1
  | 11 => am_ftS 11
  | 21 => [some 22, none]
  | 23 => am_ftS 23
  | 33 => am_ftS 33
  | 43 => am_ftS 43
  | 53 => am_ftS 53
  | 63 => [some 64, none, some 65, some 66, some 67, none, none]
  | 68 => [none, some 69, some 70, some 71, some 72, some 73]
  | _ => []
def am_F (p : Nat → Option Nat) (i k : Nat) : Option Nat := match Nat.beq i 22 with
  | true => p k
  | false => (am_ft i).getD k none
def am_w (zN : Nat) (C : Nat → Nat → Int32) (p : Nat → Option Nat) : aW := (zN + 74, am_sh, C, am_F p)
def am_Ret (zN : Nat) (P : Option Value → (Nat → Nat → Int32) → (Nat → Option Nat) → Prop) : Option Value → aW → Prop := fun r w' => ∃ C' p', w' = am_w zN C' p' ∧ P r C' p'
/-- an exact answer -/
def am_eI (e : Int32) (C : Nat → Nat → Int32) (p : Nat → Option Nat) : Option Value → (Nat → Nat → Int32) → (Nat → Option Nat) → Prop := fun r C' p' => r = some (.int e) ∧ C' = C ∧ p' = p
def am_eV (C : Nat → Nat → Int32) (p : Nat → Option Nat) : Option Value → (Nat → Nat → Int32) → (Nat → Option Nat) → Prop := fun r C' p' => r = none ∧ C' = C ∧ p' = p
/-- method k, called: it answers e, and the numbers are C' then, the states p' -/
def cI (zN d k : Nat) (av : List Value) (C : Nat → Nat → Int32) (p : Nat → Option Nat) (e : Int32) (C' : Nat → Nat → Int32) (p' : Nat → Option Nat) : Prop := am_Call d k av (am_w zN C p) (am_Ret zN (am_eI e C' p'))
def cV (zN d k : Nat) (av : List Value) (C : Nat → Nat → Int32) (p : Nat → Option Nat) (C' : Nat → Nat → Int32) (p' : Nat → Option Nat) : Prop := am_Call d k av (am_w zN C p) (am_Ret zN (am_eV C' p'))
theorem use_I {d k : Nat} {av : List Value} {C C' : Nat → Nat → Int32} {p p' : Nat → Option Nat} {e : Int32} {K : Int32 → aW → Prop} (h : cI zN d k av C p e C' p') (hk : K e (am_w zN C' p')) : am_Ci d k av (am_w zN C p) K := by
  refine am_Call.mono h ?_
  rintro r w' ⟨C1, p1, rfl, rfl, rfl, rfl⟩
  exact hk
theorem use_V {d k : Nat} {av : List Value} {C C' : Nat → Nat → Int32} {p p' : Nat → Option Nat} {K : aW → Prop} (h : cV zN d k av C p C' p') (hk : K (am_w zN C' p')) : am_Cv d k av (am_w zN C p) K := by
  refine am_Call.mono h ?_
  rintro r w' ⟨C1, p1, rfl, rfl, rfl, rfl⟩
  exact hk
theorem ret_I {e : Int32} {C : Nat → Nat → Int32} {p : Nat → Option Nat} : am_Ret zN (am_eI e C p) (some (.int e)) (am_w zN C p) := ⟨C, p, rfl, rfl, rfl, rfl⟩
theorem ret_I' {e e' : Int32} {C C' : Nat → Nat → Int32} {p p' : Nat → Option Nat} (h : e' = e) (hC : C' = C) (hp : p' = p) : am_Ret zN (am_eI e C p) (some (.int e')) (am_w zN C' p') := ⟨C', p', rfl, by rw [h], hC, hp⟩
theorem ret_V' {C C' : Nat → Nat → Int32} {p p' : Nat → Option Nat} (hC : C' = C) (hp : p' = p) : am_Ret zN (am_eV C p) none (am_w zN C' p') := ⟨C', p', rfl, rfl, hC, hp⟩
theorem am_ob_i {w : aW} {i ci : Nat} {f : Prop} (h1 : Nat.blt i w.1 = true) (h2 : w.2.1 i = (0, ci)) (h : f) : am_ob w i ci f := by
  unfold am_ob
  rw [h1, h2]
  have : Nat.beq ci ci = true := Nat.beq_refl ci
  simp only [this]
  exact h
/-- a method of the finished world, by its body -/
theorem am_m_go {d k : Nat} {av : List Value} {C : Nat → Nat → Int32} {p : Nat → Option Nat} {P : Option Value → (Nat → Nat → Int32) → (Nat → Option Nat) → Prop} (hp : (am_has am_Vs k || am_has am_Ss k || am_has am_Is k) = true) (ha : am_a1 av = true) (hn : Nat.ble av.length (mL k) = true) (hm : Nat.beq (mC k) 0 = true)
    (h : am_At d k none (am_Ret zN P) 0 (am_lc (mL k) av) [] (am_w zN C p) (0, 0)) : am_Call d k av (am_w zN C p) (am_Ret zN P) := by
  refine am_meth (am_plain hp) ha (Nat.le_of_ble_eq_true hn) (h.mono ?_)
  rintro r w' ⟨C', p', rfl, hP⟩
  refine ⟨⟨C', p', rfl, hP⟩, ?_⟩
  rw [Nat.eq_of_beq_eq_true hm]
  rfl
