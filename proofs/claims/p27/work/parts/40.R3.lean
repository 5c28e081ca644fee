/-! by the angles between neighbours -/
variable {zN : Nat}
/-- o lies behind a: by rising directions, of several the lower one first -/
def bhd (D : Nat → Int32) (o a : Nat) : Bool := if D o = D a then decide (a < o) else decide (D a < D o)
section
variable {d : Nat} {C : Nat → Nat → Int32} {p : Nat → Option Nat} {G : aG} {N : Nat}
theorem m_R_isBehind {o a : Nat} (ho : o < 6) (ha : a < 6) : cI zN (d + 1) 29 [.ref 68, .int (nI o), .int (nI a)] C p (bI (bhd (C 73) o a)) C p := by
  apply e_R_isBehind
  apply s_R_isBehind_0
  rw [cl (n := o) (by omega), cl (n := a) (by omega), le5 (by omega) (by omega)]
  have h1 := vpi (n := o) (N := 6) ho (by decide)
  have h2 := vpi (n := a) (N := 6) ha (by decide)
  refine ⟨h1, h2, fun h => ⟨h1, h2, fun q => ⟨Or.inl rfl, ret_I' ?_ rfl rfl⟩, fun q => ⟨Or.inr rfl, ret_I' ?_ rfl rfl⟩⟩, fun h => ⟨fun q => ⟨Or.inl rfl, ret_I' ?_ rfl rfl⟩, fun q => ⟨Or.inr rfl, ret_I' ?_ rfl rfl⟩⟩⟩
  · rw [bhd, if_neg h, decide_eq_false (Int32.not_lt.mpr q)]; rfl
  · rw [bhd, if_neg h, decide_eq_true (Int32.not_le.mp q)]; rfl
  · rw [bhd, if_pos h, decide_eq_false (by omega)]; rfl
  · rw [bhd, if_pos h, decide_eq_true (by omega)]; rfl
/-- a candidate for the next one behind a -/
def cnd (E : Nat → Bool) (D : Nat → Int32) (a j : Nat) : Bool := E j && bhd D j a
/-- o is the next one behind a, among those below k -/
def nxt (E : Nat → Bool) (D : Nat → Int32) (a k : Nat) (o : Option Nat) : Prop := match o with
  | none => ∀ j, j < k → cnd E D a j = false
  | some m => m < k ∧ cnd E D a m = true ∧ ∀ j, j < k → cnd E D a j = true → D m < D j ∨ (D m = D j ∧ m ≤ j)
theorem m_R_neighbour {a : Nat} (ha : a < 6) (hd : ∀ t, t < 6 → C 73 t = oD (-1) (dirO G N t)) :
    am_Call (d + 2) 28 [.ref 68, .int (nI a)] (am_w zN C p) (am_Ret zN fun r C' p' => ∃ e, r = some (.int e) ∧ p' = p ∧ C' = C ∧ ∃ o, e = oI (-1) o ∧ nxt (fun t => (dirO G N t).isSome) (C 73) a 6 o) := by
  have loop : ∀ m t o o4, t + m = 6 → nxt (fun t => (dirO G N t).isSome) (C 73) a t o → am_At (d + 2) 28 none (am_Ret zN fun r C' p' => ∃ e, r = some (.int e) ∧ p' = p ∧ C' = C ∧ ∃ o, e = oI (-1) o ∧ nxt (fun t => (dirO G N t).isSome) (C 73) a 6 o) 4
      [some (.ref 68), some (.int (nI a)), some (.int (oI (-1) o)), some (.int (nI t)), o4] [] (am_w zN C p) (0, 0) := by
    intro m
    induction m with
    | zero =>
      intro t o o4 ht h
      have : t = 6 := by omega
      subst this
      apply s_R_neighbour_4
      exact ⟨fun _ => ⟨C, p, rfl, _, rfl, rfl, rfl, o, rfl, h⟩, fun h => absurd (by decide) h⟩
    | succ m ih =>
      intro t o o4 ht h
      have no : cnd (fun t => (dirO G N t).isSome) (C 73) a t = false → nxt (fun t => (dirO G N t).isSome) (C 73) a (t + 1) o := by
        intro hc
        cases o with
        | none =>
          intro j hj
          by_cases e : j = t
          · rw [e]; exact hc
          · exact h j (by omega)
        | some m0 =>
          obtain ⟨q1, q2, q3⟩ := h
          refine ⟨by omega, q2, fun j hj hcj => ?_⟩
          by_cases e : j = t
          · rw [e, hc] at hcj
            cases hcj
          · exact q3 j (by omega) hcj
      apply s_R_neighbour_4
      refine ⟨fun h => ?_, fun _ => use_I (m_R_hasDirection (by omega) (hd t (by omega))) ?_⟩
      · have := (le5 (a := 6) (b := t) (by decide) (by omega)).mp h
        omega
      apply s_R_neighbour_15
      rw [bI_eq]
      refine ⟨fun hn => s_R_neighbour_31 (s_R_neighbour_32 ⟨fun _ => ?_, fun q => absurd rfl q⟩), fun hy => use_I (m_R_isBehind (by omega) ha) (s_R_neighbour_24 ?_)⟩
      · rw [nI_1]
        exact ih (t + 1) o _ (by omega) (no (by simp [cnd, hn]))
      · rw [Bool.not_eq_false] at hy
        rw [bI_eq]
        refine ⟨fun hb => s_R_neighbour_31 (s_R_neighbour_32 ⟨fun _ => ?_, fun q => absurd rfl q⟩), fun hb => s_R_neighbour_32 ⟨fun q => absurd q (by decide), fun _ => ?_⟩⟩
        · rw [nI_1]
          exact ih (t + 1) o _ (by omega) (no (by simp [cnd, hb]))
        · rw [Bool.not_eq_false] at hb
          have hct : cnd (fun t => (dirO G N t).isSome) (C 73) a t = true := by simp [cnd, hy, hb]
          rw [nI_1]
          cases o with
          | none =>
            refine ⟨fun _ => ih (t + 1) (some t) _ (by omega) ⟨by omega, hct, fun j hj hcj => ?_⟩, fun q => absurd rfl q⟩
            by_cases e : j = t
            · rw [e]; exact Or.inr ⟨rfl, Nat.le_refl _⟩
            · rw [h j (by omega)] at hcj
              cases hcj
          | some m0 =>
            obtain ⟨q1, q2, q3⟩ := h
            simp only [oI]
            rw [cl (n := t) (by omega), cl (n := m0) (by omega)]
            refine ⟨fun q => absurd q (nI_ne (by omega)).1, fun _ => ⟨vpi (by omega) (by decide), vpi (by omega) (by decide), fun hle => ih (t + 1) (some m0) _ (by omega) ⟨by omega, q2, fun j hj hcj => ?_⟩, fun hlt => ih (t + 1) (some t) _ (by omega) ⟨by omega, hct, fun j hj hcj => ?_⟩⟩⟩
            · by_cases e : j = t
              · rw [e]
                by_cases e2 : C 73 m0 = C 73 t
                · exact Or.inr ⟨e2, by omega⟩
                · left
                  rw [Int32.lt_iff_toInt_lt]
                  rw [Int32.le_iff_toInt_le] at hle
                  have : (C 73 m0).toInt ≠ (C 73 t).toInt := fun z => e2 (Int32.toInt_inj.mp z)
                  omega
              · exact q3 j (by omega) hcj
            · by_cases e : j = t
              · rw [e]; exact Or.inr ⟨rfl, Nat.le_refl _⟩
              · left
                rw [Int32.le_iff_toInt_le] at hlt
                rw [Int32.lt_iff_toInt_lt]
                rcases q3 j (by omega) hcj with z | ⟨z, _⟩
                · rw [Int32.lt_iff_toInt_lt] at z
                  omega
                · rw [← z]
                  omega
  exact e_R_neighbour (s_R_neighbour_0 (loop 6 0 none none rfl (fun j hj => by omega)))
theorem bhd_key {D : Nat → Int32} {o a : Nat} : bhd D o a = true ↔ ((D a).toInt < (D o).toInt ∨ ((D a).toInt = (D o).toInt ∧ a < o)) := by
  unfold bhd
  by_cases e : D o = D a
  · rw [if_pos e, e]
    simp
  · rw [if_neg e, decide_eq_true_eq, Int32.lt_iff_toInt_lt]
    have : (D o).toInt ≠ (D a).toInt := fun z => e (Int32.toInt_inj.mp z)
    omega
theorem fmd_small {x y : Int32} (h0 : 0 ≤ x.toInt) (h1 : x.toInt ≤ y.toInt) (h2 : y.toInt < 1296000) : fmd (y - x) = y - x := by
  apply Int32.toInt_inj.mp
  rw [fmd_int, Int32.toInt_sub, Int.bmod_eq_of_le (by omega) (by omega)]
  exact Int.emod_eq_of_lt (by omega) (by omega)
theorem dir_in {G : aG} {N t : Nat} {x : Int32} (h : dirO G N t = some x) : 0 ≤ x.toInt ∧ x.toInt < 1296000 := by
  unfold dirO at h
  split at h
  · cases h
  · cases h
    exact ⟨fmd_lo _, fmd_hi _⟩
theorem m_R_sumOfAngles {t : Nat} {x : Int32} (ht : t < 6) (hd : ∀ t, t < 6 → C 73 t = oD (-1) (dirO G N t)) (h0 : dirO G N 0 = some 0) (hx : dirO G N t = some x) : cI zN (d + 3) 27 [.ref 68, .int (nI t)] C p x C p := by
  have hE : ∀ j, j < 6 → (dirO G N j).isSome = true → dirO G N j = some (C 73 j) := by
    intro j hj he
    obtain ⟨y, hy⟩ := Option.isSome_iff_exists.mp he
    rw [hd j hj, hy]
    rfl
  have ht' : C 73 t = x := by rw [hd t ht, hx]; rfl
  have loop : ∀ n (a s : Nat) o5, a < 6 → (dirO G N a).isSome = true → (a = t ∨ bhd (C 73) t a = true) → cb (cnd (fun t => (dirO G N t).isSome) (C 73) a) 6 ≤ n → s + n ≤ 5 →
      am_At (d + 3) 27 none (am_Ret zN (am_eI x C p)) 7 [some (.ref 68), some (.int (nI t)), some (.int (C 73 a)), some (.int (nI a)), some (.int (nI s)), o5] [] (am_w zN C p) (0, 0) := by
    intro n
    induction n with
    | zero =>
      intro a s o5 ha hea hat hc hs
      have haa : a = t := by
        rcases hat with e | e
        · exact e
        · exfalso
          have hct : cnd (fun t => (dirO G N t).isSome) (C 73) a t = true := by
            have : (dirO G N t).isSome = true := by rw [hx]; rfl
            simp [cnd, e, this]
          have := cb_lt (b := fun _ => false) (n := 6) (k := t) (c := cnd (fun t => (dirO G N t).isSome) (C 73) a) (fun j _ h => nomatch h) ht rfl hct
          omega
      apply s_R_sumOfAngles_7
      refine ⟨fun h => ?_, fun _ => ⟨fun _ => ret_I' (by rw [haa, ht']) rfl rfl, fun h => absurd (by rw [haa]) h⟩⟩
      have := (le5 (a := 6) (b := s) (by decide) (by omega)).mp h
      omega
    | succ n ih =>
      intro a s o5 ha hea hat hc hs
      apply s_R_sumOfAngles_7
      refine ⟨fun h => ?_, fun _ => ⟨fun h => ?_, fun h => ?_⟩⟩
      · have := (le5 (a := 6) (b := s) (by decide) (by omega)).mp h
        omega
      · have haa := (eq5 (by omega) (by omega)).mp h
        exact ret_I' (by rw [haa, ht']) rfl rfl
      · have hne : a ≠ t := fun e => h (by rw [e])
        have hbt : bhd (C 73) t a = true := by
          rcases hat with e | e
          · exact absurd e hne
          · exact e
        have hct : cnd (fun t => (dirO G N t).isSome) (C 73) a t = true := by
          have : (dirO G N t).isSome = true := by rw [hx]; rfl
          simp [cnd, hbt, this]
        refine use_IP (m_R_neighbour (G := G) (N := N) ha hd) ?_
        rintro e C' ⟨rfl, o, rfl, ho⟩
        apply s_R_sumOfAngles_24
        cases o with
        | none =>
          have := ho t ht
          rw [hct] at this
          cases this
        | some m =>
          obtain ⟨m6, hm, hmin⟩ := ho
          have hm' := hm
          simp only [cnd, Bool.and_eq_true] at hm'
          obtain ⟨hem, hbm⟩ := hm'
          have da := dir_in (hE a ha hea)
          have dm := dir_in (hE m m6 hem)
          rw [bhd_key] at hbm
          refine ⟨fun _ => use_I (m_R_angleBetween ha m6) ?_, fun q => absurd q (nI_ne (by omega)).1⟩
          apply s_R_sumOfAngles_42
          have e1 : C' 73 a + fmd (C' 73 m - C' 73 a) = C' 73 m := by
            rw [fmd_small da.1 (by omega) dm.2]
            apply Int32.toInt_inj.mp
            rw [Int32.toInt_add, Int32.toInt_sub, Int.bmod_eq_of_le (n := (C' 73 m).toInt - (C' 73 a).toInt) (by omega) (by omega), Int.bmod_eq_of_le (by omega) (by omega)]
            omega
          rw [e1, nI_1]
          refine ih m (s + 1) _ m6 hem ?_ ?_ (by omega)
          · by_cases e : m = t
            · exact Or.inl e
            · right
              rw [bhd_key]
              rcases hmin t ht hct with z | ⟨z1, z2⟩
              · rw [Int32.lt_iff_toInt_lt] at z
                exact Or.inl z
              · exact Or.inr ⟨by rw [z1], by omega⟩
          · have hmm : bhd (C' 73) m m = false := by
              cases hq : bhd (C' 73) m m with
              | false => rfl
              | true =>
                rw [bhd_key] at hq
                omega
            have := cb_lt (b := cnd (fun t => (dirO G N t).isSome) (C' 73) m) (c := cnd (fun t => (dirO G N t).isSome) (C' 73) a) (n := 6) (k := m) (fun j hj hcj => ?_) m6 (by simp [cnd, hmm]) hm
            · omega
            · simp only [cnd, Bool.and_eq_true] at hcj ⊢
              refine ⟨hcj.1, ?_⟩
              have h2 := hcj.2
              rw [bhd_key] at h2 ⊢
              omega
  have c0 : C 73 0 = 0 := by rw [hd 0 (by decide), h0]; rfl
  have := loop 5 0 0 none (by decide) (by rw [h0]; rfl) ?_ ?_ (Nat.le_refl _)
  · rw [c0] at this
    exact e_R_sumOfAngles (s_R_sumOfAngles_0 this)
  · by_cases e : 0 = t
    · exact Or.inl e
    · right
      rw [bhd_key, c0, ht']
      have := dir_in hx
      have z : (0 : Int32).toInt = 0 := rfl
      omega
  · have := cb_lt (b := cnd (fun t => (dirO G N t).isSome) (C 73) 0) (c := fun _ => true) (n := 6) (k := 0) (fun _ _ _ => rfl) (by decide) ?_ rfl
    · have h6 := cb_le (fun _ => true) 6
      omega
    · have hmm : bhd (C 73) 0 0 = false := by
        cases hq : bhd (C 73) 0 0 with
        | false => rfl
        | true =>
          rw [bhd_key] at hq
          omega
      simp [cnd, hmm]
end
