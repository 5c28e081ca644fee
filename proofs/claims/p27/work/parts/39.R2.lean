variable {zN : Nat}
def bcx (x : Int32) : Int32 := ((((((((x - ((x.toUInt32 >>> ((1 : Int32).toUInt32 &&& Int32.toUInt32 31)).toInt32 &&& (1431655765 : Int32))) &&& (858993459 : Int32)) + (((x - ((x.toUInt32 >>> ((1 : Int32).toUInt32 &&& Int32.toUInt32 31)).toInt32 &&& (1431655765 : Int32))).toUInt32 >>> ((2 : Int32).toUInt32 &&& Int32.toUInt32 31)).toInt32 &&& (858993459 : Int32))) + ((((x - ((x.toUInt32 >>> ((1 : Int32).toUInt32 &&& Int32.toUInt32 31)).toInt32 &&& (1431655765 : Int32))) &&& (858993459 : Int32)) + (((x - ((x.toUInt32 >>> ((1 : Int32).toUInt32 &&& Int32.toUInt32 31)).toInt32 &&& (1431655765 : Int32))).toUInt32 >>> ((2 : Int32).toUInt32 &&& Int32.toUInt32 31)).toInt32 &&& (858993459 : Int32))).toUInt32 >>> ((4 : Int32).toUInt32 &&& Int32.toUInt32 31)).toInt32) &&& (252645135 : Int32)) + ((((((x - ((x.toUInt32 >>> ((1 : Int32).toUInt32 &&& Int32.toUInt32 31)).toInt32 &&& (1431655765 : Int32))) &&& (858993459 : Int32)) + (((x - ((x.toUInt32 >>> ((1 : Int32).toUInt32 &&& Int32.toUInt32 31)).toInt32 &&& (1431655765 : Int32))).toUInt32 >>> ((2 : Int32).toUInt32 &&& Int32.toUInt32 31)).toInt32 &&& (858993459 : Int32))) + ((((x - ((x.toUInt32 >>> ((1 : Int32).toUInt32 &&& Int32.toUInt32 31)).toInt32 &&& (1431655765 : Int32))) &&& (858993459 : Int32)) + (((x - ((x.toUInt32 >>> ((1 : Int32).toUInt32 &&& Int32.toUInt32 31)).toInt32 &&& (1431655765 : Int32))).toUInt32 >>> ((2 : Int32).toUInt32 &&& Int32.toUInt32 31)).toInt32 &&& (858993459 : Int32))).toUInt32 >>> ((4 : Int32).toUInt32 &&& Int32.toUInt32 31)).toInt32) &&& (252645135 : Int32)).toUInt32 >>> ((8 : Int32).toUInt32 &&& Int32.toUInt32 31)).toInt32) + (((((((x - ((x.toUInt32 >>> ((1 : Int32).toUInt32 &&& Int32.toUInt32 31)).toInt32 &&& (1431655765 : Int32))) &&& (858993459 : Int32)) + (((x - ((x.toUInt32 >>> ((1 : Int32).toUInt32 &&& Int32.toUInt32 31)).toInt32 &&& (1431655765 : Int32))).toUInt32 >>> ((2 : Int32).toUInt32 &&& Int32.toUInt32 31)).toInt32 &&& (858993459 : Int32))) + ((((x - ((x.toUInt32 >>> ((1 : Int32).toUInt32 &&& Int32.toUInt32 31)).toInt32 &&& (1431655765 : Int32))) &&& (858993459 : Int32)) + (((x - ((x.toUInt32 >>> ((1 : Int32).toUInt32 &&& Int32.toUInt32 31)).toInt32 &&& (1431655765 : Int32))).toUInt32 >>> ((2 : Int32).toUInt32 &&& Int32.toUInt32 31)).toInt32 &&& (858993459 : Int32))).toUInt32 >>> ((4 : Int32).toUInt32 &&& Int32.toUInt32 31)).toInt32) &&& (252645135 : Int32)) + ((((((x - ((x.toUInt32 >>> ((1 : Int32).toUInt32 &&& Int32.toUInt32 31)).toInt32 &&& (1431655765 : Int32))) &&& (858993459 : Int32)) + (((x - ((x.toUInt32 >>> ((1 : Int32).toUInt32 &&& Int32.toUInt32 31)).toInt32 &&& (1431655765 : Int32))).toUInt32 >>> ((2 : Int32).toUInt32 &&& Int32.toUInt32 31)).toInt32 &&& (858993459 : Int32))) + ((((x - ((x.toUInt32 >>> ((1 : Int32).toUInt32 &&& Int32.toUInt32 31)).toInt32 &&& (1431655765 : Int32))) &&& (858993459 : Int32)) + (((x - ((x.toUInt32 >>> ((1 : Int32).toUInt32 &&& Int32.toUInt32 31)).toInt32 &&& (1431655765 : Int32))).toUInt32 >>> ((2 : Int32).toUInt32 &&& Int32.toUInt32 31)).toInt32 &&& (858993459 : Int32))).toUInt32 >>> ((4 : Int32).toUInt32 &&& Int32.toUInt32 31)).toInt32) &&& (252645135 : Int32)).toUInt32 >>> ((8 : Int32).toUInt32 &&& Int32.toUInt32 31)).toInt32).toUInt32 >>> ((16 : Int32).toUInt32 &&& Int32.toUInt32 31)).toInt32) &&& (63 : Int32))
set_option maxRecDepth 100000 in
theorem bcx_six : ∀ b0 b1 b2 b3 b4 b5 : Bool, bcx (bs6 b0 b1 b2 b3 b4 b5) = nI (b0.toNat + b1.toNat + b2.toNat + b3.toNat + b4.toNat + b5.toNat) := by decide +kernel
/-- how many of b at 0 .. n -/
def cb (b : Nat → Bool) : Nat → Nat
  | 0 => 0
  | n + 1 => cb b n + (b n).toNat
theorem cb_six (b : Nat → Bool) : cb b 6 = (b 0).toNat + (b 1).toNat + (b 2).toNat + (b 3).toNat + (b 4).toNat + (b 5).toNat := by simp [cb]
theorem cb_le (b : Nat → Bool) : ∀ n, cb b n ≤ n
  | 0 => Nat.le_refl _
  | n + 1 => by
    have := cb_le b n
    unfold cb
    cases b n <;> simp [Bool.toNat] <;> omega
theorem cb_mono {b c : Nat → Bool} : ∀ {n : Nat}, (∀ j, j < n → b j = true → c j = true) → cb b n ≤ cb c n
  | 0, _ => Nat.le_refl _
  | n + 1, h => by
    have h1 := cb_mono (n := n) (fun j hj => h j (by omega))
    have h2 := h n (by omega)
    unfold cb
    cases hb : b n with
    | false => simp; omega
    | true => rw [h2 hb]; simp; exact h1
theorem cb_lt {b c : Nat → Bool} : ∀ {n k : Nat}, (∀ j, j < n → b j = true → c j = true) → k < n → b k = false → c k = true → cb b n < cb c n
  | 0, k, _, hk, _, _ => by omega
  | n + 1, k, h, hk, hb, hc => by
    unfold cb
    by_cases e : k = n
    · subst e
      rw [hb, hc]
      have := cb_mono (n := k) (fun j hj => h j (by omega))
      simp
      omega
    · have h1 := cb_lt (n := n) (k := k) (fun j hj => h j (by omega)) (by omega) hb hc
      have h2 := h n (by omega)
      cases hbn : b n with
      | false => simp; omega
      | true => rw [h2 hbn]; simp; exact h1
theorem bs_s (b : Nat → Bool) (n : Nat) : bs b (n + 1) = if b n then bs b n ||| (1 <<< (nI n &&& 31)) else bs b n := rfl
theorem bc_bs (b : Nat → Bool) : bcx (bs b 6) = nI (cb b 6) := by rw [bs_six, bcx_six, cb_six]
def mls (G : aG) (N t : Nat) : Nat → Int32
  | 0 => 0
  | r + 1 => if mls G N t r < lws G N r t then lws G N r t else mls G N t r
theorem mls_s (G : aG) (N t r : Nat) : mls G N t (r + 1) = if mls G N t r < lws G N r t then lws G N r t else mls G N t r := rfl
def bad (G : aG) (N : Nat) (lim : Int32) (r t : Nat) : Bool := decide (¬ lws G N r t ≤ lim)
def msd (G : aG) (r : Nat) : Nat → Nat × Int32
  | 0 => (0, 0)
  | t + 1 => if us G r t then ((msd G r t).1 + 1, (msd G r t).2 + sgR G r t) else msd G r t
theorem msd_s (G : aG) (r t : Nat) : msd G r (t + 1) = if us G r t then ((msd G r t).1 + 1, (msd G r t).2 + sgR G r t) else msd G r t := rfl
theorem msd_cb (G : aG) (r : Nat) : ∀ t, (msd G r t).1 = cb (us G r) t
  | 0 => rfl
  | t + 1 => by
    have := msd_cb G r t
    unfold msd cb
    cases us G r t with
    | false => simpa using this
    | true => simp [this]
/-- the worst of round r, targets below t, over what was found before -/
def wT (G : aG) (N r : Nat) : Nat → Option (Nat × Nat) × Int32 → Option (Nat × Nat) × Int32
  | 0, s => s
  | t + 1, s => if (wT G N r t s).2 < lws G N r t then (some (r, t), lws G N r t) else wT G N r t s
def wR (G : aG) (N : Nat) (lim : Int32) : Nat → Option (Nat × Nat) × Int32
  | 0 => (none, lim)
  | r + 1 => wT G N r 6 (wR G N lim r)
theorem wT_s (G : aG) (N r t : Nat) (s : Option (Nat × Nat) × Int32) : wT G N r (t + 1) s = if (wT G N r t s).2 < lws G N r t then (some (r, t), lws G N r t) else wT G N r t s := rfl
theorem wT_in {G : aG} {N r : Nat} : ∀ {t : Nat} {s : Option (Nat × Nat) × Int32} {x : Nat × Nat}, (wT G N r t s).1 = some x → s.1 = some x ∨ (x.1 = r ∧ x.2 < t)
  | 0, s, x, h => Or.inl h
  | t + 1, s, x, h => by
    unfold wT at h
    split at h
    · cases h
      exact Or.inr ⟨rfl, Nat.lt_succ_self _⟩
    · rcases wT_in (t := t) h with q | q
      · exact Or.inl q
      · exact Or.inr ⟨q.1, by omega⟩
theorem wR_in {G : aG} {N : Nat} {lim : Int32} : ∀ {r : Nat} {x : Nat × Nat}, (wR G N lim r).1 = some x → x.1 < r ∧ x.2 < 6
  | 0, x, h => by cases h
  | r + 1, x, h => by
    unfold wR at h
    rcases wT_in h with q | q
    · have := wR_in (r := r) q
      exact ⟨by omega, this.2⟩
    · exact ⟨by omega, q.2⟩
def oX (e : Int32) : Option (Nat × Nat) → Int32
  | some x => nI (x.1 * 6 + x.2)
  | none => e
theorem ite_flip {a b : Int32} : (if a ≤ b then b else a) = if b < a then a else b := by
  by_cases h : b < a
  · rw [if_pos h, if_neg (Int32.not_le.mpr h)]
  · rw [if_neg h, if_pos (Int32.not_lt.mp h)]
section
variable {d : Nat} {C : Nat → Nat → Int32} {p : Nat → Option Nat} {G : aG} {N : Nat}
theorem m_J_bitCount {x : Int32} : cI zN (d + 1) 158 [.int x] C p (bcx x) C p := e_J_bitCount (s_J_bitCount_0 (ret_I' rfl rfl rfl))
theorem m_R_roundsOf {t : Nat} (ht : t < 6) (hk : rk1 G N C) : cI zN (d + 2) 20 [.ref 68, .int (nI t)] C p (bs (fun r => us G r t) N) C p := by
  obtain ⟨k1, k2, k3, k4⟩ := hk
  have loop : ∀ m r, r + m = N → am_At (d + 2) 20 none (am_Ret zN (am_eI (bs (fun r => us G r t) N) C p)) 4 [some (.ref 68), some (.int (nI t)), some (.int (bs (fun r => us G r t) r)), some (.int (nI r))] [] (am_w zN C p) (0, 0) := by
    intro m
    induction m with
    | zero =>
      intro r hr
      have : r = N := by omega
      subst this
      apply s_R_roundsOf_4
      rw [k1, le5 (by omega) (by omega)]
      exact ⟨fun _ => ret_I, fun h => absurd (by omega) h⟩
    | succ m ih =>
      intro r hr
      apply s_R_roundsOf_4
      rw [k1, le5 (by omega) (by omega)]
      refine ⟨fun h => absurd h (by omega), fun _ => use_I (m_R_isUsed (G := G) (by omega) ht (k3 r (by omega))) ?_⟩
      apply s_R_roundsOf_18
      rw [bI_eq, nI_1]
      have hn := ih (r + 1) (by omega)
      rw [bs_s _ r] at hn
      refine ⟨fun h => ?_, fun h => ?_⟩
      · rw [if_neg (by rw [h]; decide)] at hn
        exact hn
      · rw [Bool.not_eq_false] at h
        rw [if_pos h] at hn
        exact hn
  exact e_R_roundsOf (s_R_roundsOf_0 (loop N 0 (by omega)))
theorem m_R_leftWithoutSign {r t : Nat} (hr : r < N) (ht : t < 6) (hk : rk G N C) : cI zN (d + 2) 21 [.ref 68, .int (nI r), .int (nI t)] C p (lws G N r t) C p := by
  obtain ⟨⟨k1, k2, k3, k4⟩, k5, k6⟩ := hk
  refine e_R_leftWithoutSign (s_R_leftWithoutSign_0 (use_I (m_R_isUsed (G := G) (by omega) ht (k3 r hr)) ?_))
  apply s_R_leftWithoutSign_6
  rw [bI_eq, ix6, cl (n := r * 6 + t) (by omega)]
  refine ⟨fun h => ret_I' ?_ rfl rfl, fun h => ⟨vpi (by omega) (by decide), ret_I' ?_ rfl rfl⟩⟩
  · rw [lws, h]
    rfl
  · rw [Bool.not_eq_false] at h
    rw [lws, if_pos h, k6 r t hr ht h]
    rfl
theorem m_R_mostLeft {t : Nat} (ht : t < 6) (hk : rk G N C) : cI zN (d + 3) 22 [.ref 68, .int (nI t)] C p (mls G N t N) C p := by
  have k1 := hk.1.1
  have k2 := hk.1.2.1
  have loop : ∀ m r, r + m = N → am_At (d + 3) 22 none (am_Ret zN (am_eI (mls G N t N) C p)) 4 [some (.ref 68), some (.int (nI t)), some (.int (mls G N t r)), some (.int (nI r))] [] (am_w zN C p) (0, 0) := by
    intro m
    induction m with
    | zero =>
      intro r hr
      have : r = N := by omega
      subst this
      apply s_R_mostLeft_4
      rw [k1, le5 (by omega) (by omega)]
      exact ⟨fun _ => ret_I, fun h => absurd (by omega) h⟩
    | succ m ih =>
      intro r hr
      apply s_R_mostLeft_4
      rw [k1, le5 (by omega) (by omega)]
      refine ⟨fun h => absurd h (by omega), fun _ => use_I (m_R_leftWithoutSign (by omega) ht hk) ?_⟩
      apply s_R_mostLeft_19
      rw [nI_1]
      have hn := ih (r + 1) (by omega)
      rw [mls_s _ _ _ r] at hn
      exact hn
  exact e_R_mostLeft (s_R_mostLeft_0 (loop N 0 (by omega)))
theorem m_R_badTargets {r : Nat} {lim : Int32} (hr : r < N) (hk : rk G N C) : cI zN (d + 3) 23 [.ref 68, .int (nI r), .int lim] C p (bs (bad G N lim r) 6) C p := by
  have loop : ∀ m t, t + m = 6 → am_At (d + 3) 23 none (am_Ret zN (am_eI (bs (bad G N lim r) 6) C p)) 5 [some (.ref 68), some (.int (nI r)), some (.int lim), some (.int (bs (bad G N lim r) t)), some (.int (nI t))] [] (am_w zN C p) (0, 0) := by
    intro m
    induction m with
    | zero =>
      intro t ht
      have : t = 6 := by omega
      subst this
      apply s_R_badTargets_5
      exact ⟨fun _ => ret_I, fun h => absurd (by decide) h⟩
    | succ m ih =>
      intro t ht
      apply s_R_badTargets_5
      refine ⟨fun h => ?_, fun _ => use_I (m_R_leftWithoutSign hr (by omega) hk) ?_⟩
      · have := (le5 (a := 6) (b := t) (by decide) (by omega)).mp h
        omega
      apply s_R_badTargets_19
      rw [nI_1]
      have hn := ih (t + 1) (by omega)
      rw [bs_s _ t] at hn
      refine ⟨fun h => ?_, fun h => ?_⟩
      · rw [if_neg (by simp [bad, h])] at hn
        exact hn
      · rw [if_pos (by simp only [bad, decide_eq_true_eq]; exact h)] at hn
        exact hn
  exact e_R_badTargets (s_R_badTargets_0 (loop 6 0 rfl))
theorem m_R_worst {lim : Int32} (hk : rk G N C) : cI zN (d + 3) 24 [.ref 68, .int lim] C p (oX (-1) (wR G N lim N).1) C p := by
  have k1 := hk.1.1
  have k2 := hk.1.2.1
  have loop : ∀ m r o5 o6, r + m = N → am_At (d + 3) 24 none (am_Ret zN (am_eI (oX (-1) (wR G N lim N).1) C p)) 7 [some (.ref 68), some (.int lim), some (.int (oX (-1) (wR G N lim r).1)), some (.int (wR G N lim r).2), some (.int (nI r)), o5, o6] [] (am_w zN C p) (0, 0) := by
    intro m
    induction m with
    | zero =>
      intro r o5 o6 hr
      have : r = N := by omega
      subst this
      apply s_R_worst_7
      rw [k1, le5 (by omega) (by omega)]
      exact ⟨fun _ => ret_I, fun h => absurd (by omega) h⟩
    | succ m ih =>
      intro r o5 o6 hr
      have inner : ∀ q t o6, t + q = 6 → am_At (d + 3) 24 none (am_Ret zN (am_eI (oX (-1) (wR G N lim N).1) C p)) 19 [some (.ref 68), some (.int lim), some (.int (oX (-1) (wT G N r t (wR G N lim r)).1)), some (.int (wT G N r t (wR G N lim r)).2), some (.int (nI r)), some (.int (nI t)), o6] [] (am_w zN C p) (0, 0) := by
        intro q
        induction q with
        | zero =>
          intro t o6 ht
          have : t = 6 := by omega
          subst this
          apply s_R_worst_19
          rw [nI_1]
          exact ⟨fun _ => ih (r + 1) _ _ (by omega), fun h => absurd (by decide) h⟩
        | succ q ih2 =>
          intro t o6 ht
          apply s_R_worst_19
          refine ⟨fun h => ?_, fun _ => use_I (m_R_leftWithoutSign (by omega) (by omega) hk) ?_⟩
          · have := (le5 (a := 6) (b := t) (by decide) (by omega)).mp h
            omega
          apply s_R_worst_34
          rw [nI_1, ix6]
          have hn := ih2 (t + 1)
          rw [wT_s _ _ _ t] at hn
          refine ⟨fun h => ?_, fun h => ?_⟩
          · rw [if_neg (Int32.not_lt.mpr h)] at hn
            exact hn _ (by omega)
          · rw [if_pos (Int32.not_le.mp h)] at hn
            exact hn _ (by omega)
      apply s_R_worst_7
      rw [k1, le5 (by omega) (by omega)]
      exact ⟨fun h => absurd h (by omega), fun _ => inner 6 0 _ rfl⟩
  exact e_R_worst (s_R_worst_0 (loop N 0 none none (by omega)))
theorem m_R_meanError {r : Nat} (hr : r < N) (hk : rk1 G N C) : cI zN (d + 2) 25 [.ref 68, .int (nI r)] C p (if (msd G r 6).1 = 0 then -2000005 else fdv (msd G r 6).2 (nI (msd G r 6).1)) C p := by
  obtain ⟨k1, k2, k3, k4⟩ := hk
  have hc := cb_le (us G r) 6
  have hm := msd_cb G r 6
  have loop : ∀ m t, t + m = 6 → (msd G r 6).1 ≠ 0 → am_At (d + 2) 25 none (am_Ret zN (am_eI (if (msd G r 6).1 = 0 then -2000005 else fdv (msd G r 6).2 (nI (msd G r 6).1)) C p)) 22 [some (.ref 68), some (.int (nI r)), some (.int (nI (msd G r 6).1)), some (.int (msd G r t).2), some (.int (nI t))] [] (am_w zN C p) (0, 0) := by
    intro m
    induction m with
    | zero =>
      intro t ht h0
      have : t = 6 := by omega
      subst this
      apply s_R_meanError_22
      refine ⟨fun _ => use_I (m_J_floorDiv (by rw [nI_toI (by omega)]; omega)) (s_R_meanError_65 (ret_I' ?_ rfl rfl)), fun h => absurd (by decide) h⟩
      rw [if_neg h0]
    | succ m ih =>
      intro t ht h0
      apply s_R_meanError_22
      refine ⟨fun h => ?_, fun _ => use_I (m_R_isUsed (G := G) (by omega) (by omega) (k3 r hr)) ?_⟩
      · have := (le5 (a := 6) (b := t) (by decide) (by omega)).mp h
        omega
      apply s_R_meanError_36
      rw [bI_eq, nI_1, ix6, cl (n := r * 6 + t) (by omega)]
      have hn := ih (t + 1) (by omega) h0
      rw [msd_s _ _ t] at hn
      refine ⟨fun h => ?_, fun h => ?_⟩
      · rw [if_neg (c := us G r t = true) (by rw [h]; decide)] at hn
        exact hn
      · rw [Bool.not_eq_false] at h
        rw [if_pos (c := us G r t = true) h] at hn
        rw [(k4 r t hr (by omega) h).2]
        exact ⟨vpi (by omega) (by decide), hn⟩
  apply e_R_meanError
  apply s_R_meanError_0
  rw [cl (n := r) (by omega), k3 r hr]
  refine ⟨vpi (by omega) (by decide), use_I m_J_bitCount ?_⟩
  rw [bc_bs, ← hm]
  apply s_R_meanError_9
  have h0 : nI (msd G r 6).1 = 0 ↔ (msd G r 6).1 = 0 := eq5 (b := 0) (by omega) (by decide)
  rw [h0]
  refine ⟨fun h => loop 6 0 rfl h, fun h => ret_I' ?_ rfl rfl⟩
  rw [if_pos h]
theorem m_R_angleBetween {a b : Nat} (ha : a < 6) (hb : b < 6) : cI zN (d + 2) 26 [.ref 68, .int (nI a), .int (nI b)] C p (fmd (C 73 b - C 73 a)) C p := by
  apply e_R_angleBetween
  apply s_R_angleBetween_0
  rw [cl (n := a) (by omega), cl (n := b) (by omega)]
  exact ⟨vpi hb (by decide), vpi ha (by decide), use_I m_J_floorMod (s_R_angleBetween_18 ret_I)⟩
end
