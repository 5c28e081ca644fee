/-! AN OWN SMALL MACHINE: one frame's steps as a proposition that is computed.
A world: how many cells; the kind of each ((0, class) an object, (t + 1, n) an array of n: t 0 char, 1 int, 2 boolean, 3 State); numbers; references. -/
abbrev aW : Type := Nat × (Nat → Nat × Nat) × (Nat → Nat → Int32) × (Nat → Nat → Option Nat)
/-- a row: pc, instruction, length, a, b, place of a word, flag, an int, a long, a switch's targets -/
abbrev aI : Type := Nat × Instr × Nat × Nat × Nat × Nat × Nat × Int32 × Int64 × List (Int32 × Nat)
/-- a method: name, bytes, locals, what is returned, parameters, new cells, new slots, its code word's place, rows -/
abbrev aM : Type := MethodName × ByteArray × Nat × Option FieldType × Nat × Nat × Nat × Nat × List aI
abbrev aL : Type := List (Option Value)
abbrev aK : Type := Nat → aL → List Value → aW → Nat × Nat → Prop
def am_look : List aI → Nat → Option aI
  | [], _ => none
  | x :: t, pc => match Nat.beq x.1 pc with
    | true => some x
    | false => am_look t pc
def am_nth : aL → Nat → Option Value
  | [], _ => none
  | o :: _, 0 => o
  | _ :: t, i + 1 => am_nth t i
def am_up : aL → Nat → Option Value → aL
  | [], _, _ => []
  | _ :: t, 0, v => v :: t
  | o :: t, i + 1, v => o :: am_up t i v
/-- the place ahead holds no long -/
def am_nl (lc : aL) : Nat → Bool
  | 0 => true
  | i + 1 => match am_nth lc i with
    | some (.long _) => false
    | some (.double _) => false
    | _ => true
def am_sv (lc : aL) (i : Nat) (v : Value) (f : aL → Prop) : Prop := match am_nl lc i with
  | true => f (am_up lc i (some v))
  | false => False
def am_sl (lc : aL) (i : Nat) (x : Int64) (f : aL → Prop) : Prop := match am_nl lc i with
  | true => f (am_up (am_up lc i (some (.long x))) (i + 1) none)
  | false => False
def am_gi (lc : aL) (i : Nat) (f : Int32 → Prop) : Prop := match am_nth lc i with
  | some (.int x) => f x
  | _ => False
def am_gl (lc : aL) (i : Nat) (f : Int64 → Prop) : Prop := match am_nth lc i with
  | some (.long x) => f x
  | _ => False
def am_ga (lc : aL) (i : Nat) (f : Value → Prop) : Prop := match am_nth lc i with
  | some (.ref j) => f (.ref j)
  | some (.retAddr j) => f (.retAddr j)
  | _ => False
def am_i (st : List Value) (f : Int32 → List Value → Prop) : Prop := match st with
  | .int x :: r => f x r
  | _ => False
def am_ii (st : List Value) (f : Int32 → Int32 → List Value → Prop) : Prop := match st with
  | .int y :: .int x :: r => f x y r
  | _ => False
def am_l (st : List Value) (f : Int64 → List Value → Prop) : Prop := match st with
  | .long x :: r => f x r
  | _ => False
def am_ll (st : List Value) (f : Int64 → Int64 → List Value → Prop) : Prop := match st with
  | .long y :: .long x :: r => f x y r
  | _ => False
def am_a (st : List Value) (f : Value → List Value → Prop) : Prop := match st with
  | .ref j :: r => f (.ref j) r
  | .retAddr j :: r => f (.retAddr j) r
  | _ => False
def am_cat1 : Value → Bool
  | .long _ => false
  | .double _ => false
  | _ => true
def am_c2 (c : ClassFile.Cond) (x y : Int32) (A B : Prop) : Prop := match c with
  | .eq => (x = y → A) ∧ (¬ x = y → B)
  | .ne => (¬ x = y → A) ∧ (x = y → B)
  | .lt => (x < y → A) ∧ (¬ x < y → B)
  | .ge => (y ≤ x → A) ∧ (¬ y ≤ x → B)
  | .gt => (y < x → A) ∧ (¬ y < x → B)
  | .le => (x ≤ y → A) ∧ (¬ x ≤ y → B)
def am_sw (x : Int32) (K : Nat → Prop) (D : Prop) : List (Int32 × Nat) → Prop
  | [] => D
  | q :: t => (x = q.1 → K q.2) ∧ (¬ x = q.1 → am_sw x K D t)
def am_sine (j : Nat) : Int32 := ([0, 259, 500, 707, 866, 966, 1000, 966, 866, 707, 500, 259, 0, -259, -500, -707, -866, -966, -1000, -966, -866, -707, -500, -259] : List Int32).getD j 0
/-- new worlds out of old ones -/
def am_u2 (C : Nat → Nat → Int32) (i k : Nat) (x : Int32) : Nat → Nat → Int32 := fun a b => if a = i then (if b = k then x else C a b) else C a b
def am_uF (F : Nat → Nat → Option Nat) (i k : Nat) (x : Option Nat) : Nat → Nat → Option Nat := fun a b => if a = i then (if b = k then x else F a b) else F a b
def am_uS (S : Nat → Nat × Nat) (i : Nat) (x : Nat × Nat) : Nat → Nat × Nat := fun a => if a = i then x else S a
def am_uR {α : Type} (C : Nat → α) (i : Nat) (x : α) : Nat → α := fun a => if a = i then x else C a
def am_wC (w : aW) (C : Nat → Nat → Int32) : aW := (w.1, w.2.1, C, w.2.2.2)
def am_wF (w : aW) (F : Nat → Nat → Option Nat) : aW := (w.1, w.2.1, w.2.2.1, F)
/-- one more cell -/
def am_wN (w : aW) (q : Nat × Nat) : aW := (w.1 + 1, am_uS w.2.1 w.1 q, am_uR w.2.2.1 w.1 (fun _ => 0), am_uR w.2.2.2 w.1 (fun _ => none))
def am_room (u cap : Nat × Nat) (f : Prop) : Prop := match Nat.ble u.1 cap.1 && Nat.ble u.2 cap.2 with
  | true => f
  | false => False
/-- the arguments off the stack, the last one on top -/
def am_pop : Nat → List Value → List Value → (List Value → List Value → Prop) → Prop
  | 0, st, acc, f => f acc st
  | _ + 1, [], _, _ => False
  | n + 1, v :: st, acc, f => am_pop n st (v :: acc) f
def am_cs : List Value → Nat
  | [] => 0
  | .long _ :: r => am_cs r + 2
  | .double _ :: r => am_cs r + 2
  | _ :: r => am_cs r + 1
def am_cs8 (r : List Value) (f : Prop) : Prop := match Nat.ble (am_cs r) 8 with
  | true => f
  | false => False
/-- an object of class ci -/
def am_ob (w : aW) (i ci : Nat) (f : Prop) : Prop := match Nat.blt i w.1, w.2.1 i with
  | true, (0, c) => (match Nat.beq c ci with
    | true => f
    | false => False)
  | _, _ => False
/-- an array of kind t: its length -/
def am_ar (w : aW) (i t : Nat) (f : Nat → Prop) : Prop := match Nat.blt i w.1, w.2.1 i with
  | true, (t' + 1, n) => (match Nat.beq t' t with
    | true => f n
    | false => False)
  | _, _ => False
def am_alen (w : aW) (i : Nat) (f : Nat → Prop) : Prop := match Nat.blt i w.1, w.2.1 i with
  | true, (t + 1, n) => (match Nat.blt t 4 with
    | true => f n
    | false => False)
  | _, _ => False
def am_at (t : Nat) : FieldType := match t with
  | 0 => .char
  | 1 => .int
  | 2 => .boolean
  | _ => .object "FaceRounds$State"
def am_nar (t : Nat) (x : Int32) : Int32 := match t with
  | 0 => vp_nar .char x
  | 1 => x
  | _ => vp_nar .boolean x
