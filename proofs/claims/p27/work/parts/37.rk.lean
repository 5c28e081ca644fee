/-! WHAT FOLLOWS FROM THE ROUNDS OF A SET-UP: G r: the two faces of round r; N rounds -/
variable {zN : Nat}
abbrev aG : Type := Nat → aFace × aFace
def bs (b : Nat → Bool) : Nat → Int32
  | 0 => 0
  | n + 1 => if b n then bs b n ||| (1 <<< (nI n &&& 31)) else bs b n
def bs6 (b0 b1 b2 b3 b4 b5 : Bool) : Int32 := bs (fun n => match n with
  | 0 => b0
  | 1 => b1
  | 2 => b2
  | 3 => b3
  | 4 => b4
  | _ => b5) 6
theorem bs_congr {b c : Nat → Bool} : ∀ {n : Nat}, (∀ j, j < n → b j = c j) → bs b n = bs c n
  | 0, _ => rfl
  | n + 1, h => by
    unfold bs
    rw [h n (by omega), bs_congr (n := n) (fun j hj => h j (by omega))]
theorem bs_six (b : Nat → Bool) : bs b 6 = bs6 (b 0) (b 1) (b 2) (b 3) (b 4) (b 5) := by
  refine bs_congr (fun j hj => ?_)
  match j, hj with
  | 0, _ => rfl
  | 1, _ => rfl
  | 2, _ => rfl
  | 3, _ => rfl
  | 4, _ => rfl
  | 5, _ => rfl
set_option maxRecDepth 100000 in
theorem bs6_bit : ∀ b0 b1 b2 b3 b4 b5 : Bool, (bs6 b0 b1 b2 b3 b4 b5 &&& (1 <<< (nI 0 &&& 31)) = 0 ↔ b0 = false) ∧ (bs6 b0 b1 b2 b3 b4 b5 &&& (1 <<< (nI 1 &&& 31)) = 0 ↔ b1 = false) ∧ (bs6 b0 b1 b2 b3 b4 b5 &&& (1 <<< (nI 2 &&& 31)) = 0 ↔ b2 = false) ∧ (bs6 b0 b1 b2 b3 b4 b5 &&& (1 <<< (nI 3 &&& 31)) = 0 ↔ b3 = false) ∧ (bs6 b0 b1 b2 b3 b4 b5 &&& (1 <<< (nI 4 &&& 31)) = 0 ↔ b4 = false) ∧ (bs6 b0 b1 b2 b3 b4 b5 &&& (1 <<< (nI 5 &&& 31)) = 0 ↔ b5 = false) := by decide +kernel
theorem bs_bit {b : Nat → Bool} {t : Nat} (ht : t < 6) : bs b 6 &&& (1 <<< (nI t &&& 31)) = 0 ↔ b t = false := by
  rw [bs_six]
  obtain ⟨h0, h1, h2, h3, h4, h5⟩ := bs6_bit (b 0) (b 1) (b 2) (b 3) (b 4) (b 5)
  match t, ht with
  | 0, _ => exact h0
  | 1, _ => exact h1
  | 2, _ => exact h2
  | 3, _ => exact h3
  | 4, _ => exact h4
  | 5, _ => exact h5
def us (G : aG) (r t : Nat) : Bool := decide (why (G r).1 (G r).2 (nI t) = 0)
def reR (G : aG) (r t : Nat) : Int32 := red (G r).1 (G r).2 (nI t)
def sgR (G : aG) (r t : Nat) : Int32 := sgt (G r).1 (G r).2 (nI t)
/-- how many rounds so far, the first reduced direction, the sum of the differences -/
def dst (G : aG) (t : Nat) : Nat → Nat × Int32 × Int32
  | 0 => (0, 0, 0)
  | r + 1 => if us G r t then ((dst G t r).1 + 1, (if (dst G t r).1 = 0 then reR G r t else (dst G t r).2.1), (dst G t r).2.2 + nr (reR G r t - (if (dst G t r).1 = 0 then reR G r t else (dst G t r).2.1))) else dst G t r
theorem dst_le (G : aG) (t : Nat) : ∀ r, (dst G t r).1 ≤ r
  | 0 => Nat.le_refl _
  | r + 1 => by
    have := dst_le G t r
    unfold dst
    split
    · show (dst G t r).1 + 1 ≤ r + 1
      omega
    · omega
theorem dst_pos {G : aG} {t : Nat} : ∀ {N r : Nat}, r < N → us G r t = true → 0 < (dst G t N).1
  | 0, r, h, _ => by omega
  | N + 1, r, h, hu => by
    unfold dst
    by_cases hr : r = N
    · subst hr
      rw [if_pos hu]
      exact Nat.succ_pos _
    · have := dst_pos (N := N) (r := r) (by omega) hu
      split
      · exact Nat.succ_pos _
      · exact this
/-- the direction of a target -/
def dirO (G : aG) (N t : Nat) : Option Int32 := if (dst G t N).1 = 0 then none else some (fmd ((dst G t N).2.1 + fdv (dst G t N).2.2 (nI (dst G t N).1)))
def dirI (G : aG) (N t : Nat) : Int32 := fmd ((dst G t N).2.1 + fdv (dst G t N).2.2 (nI (dst G t N).1))
def oD (e : Int32) : Option Int32 → Int32
  | some x => x
  | none => e
def lef (G : aG) (N r t : Nat) : Int32 := nr (reR G r t - dirI G N t)
/-- what is left, without a sign; 0 where the target is not used -/
def lws (G : aG) (N r t : Nat) : Int32 := if us G r t then av (lef G N r t) else 0
theorem dirO_some {G : aG} {N t : Nat} (h : (dst G t N).1 ≠ 0) : dirO G N t = some (dirI G N t) := by rw [dirO, if_neg h]; rfl
theorem dirO_none {G : aG} {N t : Nat} (h : (dst G t N).1 = 0) : dirO G N t = none := by rw [dirO, if_pos h]
theorem fmd_m1 (x : Int32) : fmd x ≠ -1 ∧ fmd x ≠ -2000005 := by
  have := fmd_lo x
  constructor <;> intro e <;> rw [e] at this <;> exact absurd this (by decide)
theorem oD_m1 {G : aG} {N t : Nat} : oD (-1) (dirO G N t) = -1 ↔ dirO G N t = none := by
  unfold dirO
  split
  · simp [oD]
  · simp only [oD, reduceCtorEq, iff_false]
    exact (fmd_m1 _).1
/-! Reckoning -/
def agR (C' C : Nat → Nat → Int32) : Prop := ∀ x, x < 68 ∨ 73 < x → C' x = C x
theorem agR.rf {C : Nat → Nat → Int32} : agR C C := fun _ _ => rfl
theorem agR.tr {A B C : Nat → Nat → Int32} (h1 : agR A B) (h2 : agR B C) : agR A C := fun x h => (h1 x h).trans (h2 x h)
theorem agR_u {C : Nat → Nat → Int32} {i k : Nat} {x : Int32} (h : 68 ≤ i ∧ i ≤ 73) : agR (am_u2 C i k x) C := fun y hy => am_u2_ne (by omega)
theorem fS_agR {o : Nat} {C' C : Nat → Nat → Int32} (h : agR C' C) (ho : o + 9 < 68) (row : Nat) : fS o C' row = fS o C row := by
  unfold fS
  rw [h (o + 5) (by omega), h (o + 6) (by omega), h (o + 7) (by omega), h (o + 8) (by omega), h (o + 9) (by omega)]
theorem cok_agR {C' C : Nat → Nat → Int32} (h : agR C' C) {row : Nat} (hc : cok 1 C row) : cok 1 C' row := by
  unfold cok at hc ⊢
  rw [fS_agR h (by decide), h (1 + 5) (by omega)]
  exact hc
theorem use_VP {d k : Nat} {av : List Value} {C : Nat → Nat → Int32} {p : Nat → Option Nat} {R : (Nat → Nat → Int32) → Prop} {K : aW → Prop} (h : am_Call d k av (am_w zN C p) (am_Ret zN fun r C' p' => r = none ∧ p' = p ∧ R C')) (hk : ∀ C', R C' → K (am_w zN C' p)) : am_Cv d k av (am_w zN C p) K := by
  refine am_Call.mono h ?_
  rintro r w' ⟨C1, p1, rfl, rfl, rfl, hR⟩
  exact hk C1 hR
theorem use_IP {d k : Nat} {av : List Value} {C : Nat → Nat → Int32} {p : Nat → Option Nat} {R : Int32 → (Nat → Nat → Int32) → Prop} {K : Int32 → aW → Prop} (h : am_Call d k av (am_w zN C p) (am_Ret zN fun r C' p' => ∃ e, r = some (.int e) ∧ p' = p ∧ R e C')) (hk : ∀ e C', R e C' → K e (am_w zN C' p)) : am_Ci d k av (am_w zN C p) K := by
  refine am_Call.mono h ?_
  rintro r w' ⟨C1, p1, rfl, e, rfl, rfl, hR⟩
  exact hk e C1 hR
/-- the rounds of set-up u of the state at 1 -/
def Gc (C : Nat → Nat → Int32) (u : Nat) : aG := fun r => (fS 1 C ((u * 6 + r) * 2), fS 1 C ((u * 6 + r) * 2 + 1))
theorem Gc_agR {C' C : Nat → Nat → Int32} (h : agR C' C) (u : Nat) : Gc C' u = Gc C u := by
  funext r
  simp only [Gc]
  rw [fS_agR h (by decide), fS_agR h (by decide)]
def rk1 (G : aG) (N : Nat) (C : Nat → Nat → Int32) : Prop := C 68 0 = nI N ∧ N ≤ 6 ∧ (∀ r, r < N → C 69 r = bs (us G r) 6) ∧ ∀ r t, r < N → t < 6 → us G r t = true → C 70 (r * 6 + t) = reR G r t ∧ C 71 (r * 6 + t) = sgR G r t
def rk (G : aG) (N : Nat) (C : Nat → Nat → Int32) : Prop := rk1 G N C ∧ (∀ t, t < 6 → C 73 t = oD (-1) (dirO G N t)) ∧ ∀ r t, r < N → t < 6 → us G r t = true → C 72 (r * 6 + t) = lef G N r t
section
variable {d : Nat} {C : Nat → Nat → Int32} {p : Nat → Option Nat} {G : aG} {N : Nat}
theorem m_R_isUsed {r t : Nat} (hr : r < 6) (ht : t < 6) (hb : C 69 r = bs (us G r) 6) : cI zN (d + 1) 18 [.ref 68, .int (nI r), .int (nI t)] C p (bI (us G r t)) C p := by
  apply e_R_isUsed
  apply s_R_isUsed_0
  rw [cl (n := r) (by omega), hb, bs_bit ht]
  refine ⟨vpi hr (by decide), fun h => ⟨Or.inl rfl, ret_I' ?_ rfl rfl⟩, fun h => ⟨Or.inr rfl, ret_I' ?_ rfl rfl⟩⟩
  · rw [h]; rfl
  · rw [Bool.not_eq_false] at h
    rw [h]; rfl
theorem m_R_hasDirection {t : Nat} (ht : t < 6) (hd : C 73 t = oD (-1) (dirO G N t)) : cI zN (d + 1) 19 [.ref 68, .int (nI t)] C p (bI (dirO G N t).isSome) C p := by
  apply e_R_hasDirection
  apply s_R_hasDirection_0
  rw [cl (n := t) (by omega), hd, oD_m1]
  refine ⟨vpi ht (by decide), fun h => ⟨Or.inl rfl, ret_I' ?_ rfl rfl⟩, fun h => ⟨Or.inr rfl, ret_I' ?_ rfl rfl⟩⟩
  · rw [h]; rfl
  · cases hx : dirO G N t with
    | none => exact absurd hx h
    | some x => rfl
theorem m_R_reckonLeft {t : Nat} (ht : t < 6) (hk : rk1 G N C) (hd : C 73 t = dirI G N t) :
    am_Call (d + 2) 17 [.ref 68, .int (nI t)] (am_w zN C p) (am_Ret zN fun r C' p' => r = none ∧ p' = p ∧ (∀ x, x ≠ 72 → C' x = C x) ∧ (∀ r, r < N → us G r t = true → C' 72 (r * 6 + t) = lef G N r t) ∧ ∀ r t', t' < 6 → t' ≠ t → C' 72 (r * 6 + t') = C 72 (r * 6 + t')) := by
  obtain ⟨k1, k2, k3, k4⟩ := hk
  have loop : ∀ m r (D : Nat → Nat → Int32) o3, r + m = N → (∀ x, x ≠ 72 → D x = C x) → (∀ r', r' < r → us G r' t = true → D 72 (r' * 6 + t) = lef G N r' t) → (∀ r t', t' < 6 → t' ≠ t → D 72 (r * 6 + t') = C 72 (r * 6 + t')) →
      am_At (d + 2) 17 none (am_Ret zN fun r C' p' => r = none ∧ p' = p ∧ (∀ x, x ≠ 72 → C' x = C x) ∧ (∀ r, r < N → us G r t = true → C' 72 (r * 6 + t) = lef G N r t) ∧ ∀ r t', t' < 6 → t' ≠ t → C' 72 (r * 6 + t') = C 72 (r * 6 + t')) 2 [some (.ref 68), some (.int (nI t)), some (.int (nI r)), o3] [] (am_w zN D p) (0, 0) := by
    intro m
    induction m with
    | zero =>
      intro r D o3 hr h1 h2 h3
      apply s_R_reckonLeft_2
      rw [h1 68 (by decide), k1, le5 (by omega) (by omega)]
      exact ⟨fun _ => ⟨D, p, rfl, rfl, rfl, h1, fun r' hr' => h2 r' (by omega), h3⟩, fun h => absurd (by omega) h⟩
    | succ m ih =>
      intro r D o3 hr h1 h2 h3
      apply s_R_reckonLeft_2
      rw [h1 68 (by decide), k1, le5 (by omega) (by omega)]
      refine ⟨fun h => absurd h (by omega), fun _ => use_I (m_R_isUsed (G := G) (by omega) ht (by rw [h1 69 (by decide)]; exact k3 r (by omega))) ?_⟩
      apply s_R_reckonLeft_16
      rw [bI_eq, ix6, nI_1, cl (n := t) (by omega), cl (n := r * 6 + t) (by omega), h1 70 (by decide), h1 73 (by decide), hd]
      refine ⟨fun hu => ih (r + 1) D o3 (by omega) h1 (fun r' hr' hu' => ?_) h3, fun hu => ⟨vpi (by omega) (by decide), vpi ht (by decide), use_I m_F_nearZero ?_⟩⟩
      · by_cases e : r' = r
        · rw [e, hu] at hu'
          cases hu'
        · exact h2 r' (by omega) hu'
      · rw [Bool.not_eq_false] at hu
        apply s_R_reckonLeft_47
        rw [cl (n := r * 6 + t) (by omega), nI_1, (k4 r t (by omega) ht hu).1]
        refine ⟨vpi (by omega) (by decide), ih (r + 1) _ _ (by omega) (fun x hx => by rw [am_u2_ne hx]; exact h1 x hx) (fun r' hr' hu' => ?_) (fun r' t' ht' hne => ?_)⟩
        · rw [am_u2_at]
          by_cases e : r' = r
          · rw [if_pos ⟨rfl, by rw [e]⟩, e]
            rfl
          · rw [if_neg (by omega)]
            exact h2 r' (by omega) hu'
        · rw [am_u2_at, if_neg (by omega)]
          exact h3 r' t' ht' hne
  exact e_R_reckonLeft (s_R_reckonLeft_0 (loop N 0 C none (by omega) (fun _ _ => rfl) (fun r' hr' => by omega) (fun _ _ _ _ => rfl)))
theorem m_R_reckonDirection {t : Nat} (ht : t < 6) (hk : rk1 G N C) :
    am_Call (d + 3) 16 [.ref 68, .int (nI t)] (am_w zN C p) (am_Ret zN fun r C' p' => r = none ∧ p' = p ∧ (∀ x, x ≠ 72 → x ≠ 73 → C' x = C x) ∧ C' 73 t = oD (-1) (dirO G N t) ∧ (∀ t', t' ≠ t → C' 73 t' = C 73 t') ∧ (∀ r, r < N → us G r t = true → C' 72 (r * 6 + t) = lef G N r t) ∧ ∀ r t', t' < 6 → t' ≠ t → C' 72 (r * 6 + t') = C 72 (r * 6 + t')) := by
  obtain ⟨k1, k2, k3, k4⟩ := id hk
  have loop : ∀ m r o6, r + m = N → am_At (d + 3) 16 none (am_Ret zN fun r C' p' => r = none ∧ p' = p ∧ (∀ x, x ≠ 72 → x ≠ 73 → C' x = C x) ∧ C' 73 t = oD (-1) (dirO G N t) ∧ (∀ t', t' ≠ t → C' 73 t' = C 73 t') ∧ (∀ r, r < N → us G r t = true → C' 72 (r * 6 + t) = lef G N r t) ∧ ∀ r t', t' < 6 → t' ≠ t → C' 72 (r * 6 + t') = C 72 (r * 6 + t')) 10
      [some (.ref 68), some (.int (nI t)), some (.int (nI (dst G t r).1)), some (.int (dst G t r).2.1), some (.int (dst G t r).2.2), some (.int (nI r)), o6] [] (am_w zN C p) (0, 0) := by
    intro m
    induction m with
    | zero =>
      intro r o6 hr
      have hrN : r = N := by omega
      subst hrN
      have hm := dst_le G t r
      apply s_R_reckonDirection_10
      rw [k1, le5 (by omega) (by omega), cl (n := t) (by omega)]
      have h0 : nI (dst G t r).1 = 0 ↔ (dst G t r).1 = 0 := eq5 (b := 0) (by omega) (by decide)
      rw [h0]
      refine ⟨fun _ => ⟨fun hz => use_I (m_J_floorDiv (by rw [nI_toI (by omega)]; omega)) ?_, fun hz => ⟨vpi ht (by decide), _, p, rfl, rfl, rfl, fun x h72 h73 => am_u2_ne h73, ?_, fun t' hne => by rw [am_u2_at, if_neg (fun q => hne q.2)], fun r' hr' hu' => ?_, fun r' t' _ _ => by rw [am_u2_ne (by decide)]⟩⟩, fun h => absurd (by omega) h⟩
      · apply s_R_reckonDirection_98
        refine use_I m_J_floorMod ?_
        apply s_R_reckonDirection_104
        rw [cl (n := t) (by omega)]
        refine ⟨vpi ht (by decide), use_VP (m_R_reckonLeft (G := G) (N := r) ht ⟨?_, k2, ?_, ?_⟩ ?_) ?_⟩
        · rw [am_u2_ne (by decide)]; exact k1
        · intro r' hr'
          rw [am_u2_ne (by decide)]; exact k3 r' hr'
        · intro r' t' hr' ht' hu'
          rw [am_u2_ne (by decide), am_u2_ne (by decide)]; exact k4 r' t' hr' ht' hu'
        · rw [am_u2_at, if_pos ⟨rfl, rfl⟩]
          rfl
        · rintro C' ⟨a1, a2, a3⟩
          apply s_R_reckonDirection_110
          refine ⟨C', p, rfl, rfl, rfl, fun x h72 h73 => by rw [a1 x h72, am_u2_ne h73], ?_, fun t' hne => by rw [a1 73 (by decide), am_u2_at, if_neg (fun q => hne q.2)], a2, fun r' t' ht' hne => by rw [a3 r' t' ht' hne, am_u2_ne (by decide)]⟩
          rw [a1 73 (by decide), am_u2_at, if_pos ⟨rfl, rfl⟩, dirO_some hz]
          rfl
      · rw [am_u2_at, if_pos ⟨rfl, rfl⟩, dirO_none hz]
        rfl
      · have := dst_pos hr' hu'
        omega
    | succ m ih =>
      intro r o6 hr
      have hm := dst_le G t r
      apply s_R_reckonDirection_10
      rw [k1, le5 (by omega) (by omega)]
      refine ⟨fun h => absurd h (by omega), fun _ => use_I (m_R_isUsed (G := G) (by omega) ht (k3 r (by omega))) ?_⟩
      apply s_R_reckonDirection_26
      have h0 : nI (dst G t r).1 = 0 ↔ (dst G t r).1 = 0 := eq5 (b := 0) (by omega) (by decide)
      rw [bI_eq, ix6, nI_1, cl (n := r * 6 + t) (by omega), h0]
      have hn := ih (r + 1)
      unfold dst at hn
      refine ⟨fun hu => ?_, fun hu => ?_⟩
      · rw [Bool.not_eq_false] at hu
        rw [(k4 r t (by omega) ht hu).1]
        rw [if_pos hu] at hn
        refine ⟨vpi (by omega) (by decide), fun hz => use_I m_F_nearZero ?_, fun hz => use_I m_F_nearZero ?_⟩
        · rw [if_neg hz] at hn
          apply s_R_reckonDirection_62
          rw [nI_1, nI_1]
          exact hn _ (by omega)
        · rw [if_pos hz] at hn
          apply s_R_reckonDirection_62
          rw [nI_1, nI_1]
          exact hn _ (by omega)
      · rw [if_neg (by rw [hu]; decide)] at hn
        exact hn _ (by omega)
  exact e_R_reckonDirection (s_R_reckonDirection_0 (loop N 0 none (by omega)))
end
