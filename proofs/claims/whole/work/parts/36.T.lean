section
variable {d : Nat} {C : Nat → Nat → Int32} {p : Nat → Option Nat} {L a : Nat}
theorem oI_none' {o : Option Nat} (h : ∀ k, o = some k → k < 2147483648) : oI (-1) o = -1 ↔ o = none := by
  cases o with
  | none => simp [oI]
  | some k =>
    simp only [oI, reduceCtorEq, iff_false]
    intro e
    have := congrArg Int32.toInt e
    rw [nI_toInt (h k rfl)] at this
    have h2 : (-1 : Int32).toInt = -1 := by decide
    omega
theorem ang_m1 {ch : Nat → Int32} (ha : a ≤ L) : oI (-1) (ang L ch a).2 = -1 ↔ (ang L ch a).2 = none := oI_none' (fun k hk => by have := ((ang_in (ch := ch) ha).2.2 k hk).1; omega)
theorem tgt_m1 {ch : Nat → Int32} : oI (-1) (tgt L ch a) = -1 ↔ tgt L ch a = none := oI_none' (fun k hk => by
  unfold tgt at hk
  split at hk
  · cases hk
  · split at hk
    · cases hk; omega
    · cases hk)
theorem fac_m1 {ch : Nat → Int32} : oI (-1) (fac L ch a) = -1 ↔ fac L ch a = none := oI_none' (fun k hk => by
  unfold fac at hk
  split at hk
  · cases hk; omega
  · split at hk
    · cases hk; omega
    · cases hk)
def putP (C : Nat → Nat → Int32) (n : Nat) (x : Nat × Nat × Nat) : Nat → Nat → Int32 := am_u2 (am_u2 (am_u2 (am_u2 C 65 n (nI x.1)) 66 n (nI x.2.1)) 67 n (nI x.2.2)) 63 5 (nI (n + 1))
def putL (C : Nat → Nat → Int32) : Nat → List (Nat × Nat × Nat) → Nat → Nat → Int32
  | _, [] => C
  | n, x :: l => putL (putP C n x) (n + 1) l
theorem putP_at {b n : Nat} {x : Nat × Nat × Nat} : putP (atC C b) n x = atC (putP C n x) b := by
  funext y i
  simp only [putP, atC, am_u2_at]
  by_cases h : y = 63 ∧ i = 6
  · obtain ⟨rfl, rfl⟩ := h
    simp
  · simp [h]
theorem m_T_readPointing {n : Nat} (hL : C 63 1 = nI L) (h60 : L ≤ 60) (ha : a ≤ L) (hn : C 63 5 = nI n) (h7 : n ≤ 7) (hf : n = 7 → (ppt L (C 64) a).2 = none) :
    cI (d + 4) 6 [.ref 63] (atC C a) p (bI (ppt L (C 64) a).2.isSome) (match (ppt L (C 64) a).2 with
      | none => atC C (ppt L (C 64) a).1
      | some x => atC (putP C n x) (ppt L (C 64) a).1) p := by
  apply e_T_readPointing
  apply s_T_readPointing_0
  refine use_I (m_T_readTarget hL h60 ha) ?_
  apply s_T_readPointing_4
  rw [tgt_m1]
  unfold ppt at hf ⊢
  cases ht : tgt L (C 64) a with
  | none => exact ⟨fun q => absurd rfl q, fun _ => ⟨Or.inl rfl, ret_I' rfl rfl rfl⟩⟩
  | some t =>
    rw [ht] at hf
    dsimp only at hf ⊢
    have hal : a < L := by
      unfold tgt at ht
      split at ht
      · cases ht
      · rename_i e he
        exact (dg_some he).1
    refine ⟨fun _ => ?_, fun q => nomatch q⟩
    simp only [Option.isSome_some, if_true]
    refine use_I (m_T_readFace hL h60 hal) ?_
    apply s_T_readPointing_16
    rw [fac_m1]
    cases hc : fac L (C 64) (a + 1) with
    | none => exact ⟨fun q => absurd rfl q, fun _ => ⟨Or.inl rfl, ret_I' rfl rfl rfl⟩⟩
    | some f =>
      rw [hc] at hf
      dsimp only at hf ⊢
      have hal2 : a + 1 < L := by
        unfold fac at hc
        split at hc
        · rename_i hs
          exact skp_lt hs
        · split at hc
          · rename_i hs
            exact skp_lt hs
          · cases hc
      refine ⟨fun _ => ?_, fun q => nomatch q⟩
      simp only [Option.isSome_some, if_true]
      refine use_I (m_T_readAngle hL h60 hal2) ?_
      apply s_T_readPointing_28
      rw [ang_m1 hal2]
      unfold ppt2 at hf ⊢
      generalize ang L (C 64) (a + 1 + 1) = r at hf ⊢
      obtain ⟨b, o⟩ := r
      cases o with
      | none => exact ⟨fun _ => ⟨Or.inl rfl, ret_I' rfl rfl rfl⟩, fun q => absurd rfl q⟩
      | some z =>
        dsimp only at hf ⊢
        have hn7 : n < 7 := by
          apply Classical.byContradiction
          intro hh
          have := hf (by omega)
          cases this
        have e5 : atC C b 63 5 = nI n := by rw [atC_5, hn]
        have e5' : am_u2 (atC C b) 65 n (oI (-1) (some t)) 63 5 = nI n := by rw [am_u2_ne (by decide), e5]
        have e5'' : am_u2 (am_u2 (atC C b) 65 n (oI (-1) (some t))) 66 n (oI (-1) (some f)) 63 5 = nI n := by rw [am_u2_ne (by decide), e5']
        have e5''' : am_u2 (am_u2 (am_u2 (atC C b) 65 n (oI (-1) (some t))) 66 n (oI (-1) (some f))) 67 n (oI (-1) (some z)) 63 5 = nI n := by rw [am_u2_ne (by decide), e5'']
        rw [e5, cl (n := n) (by omega), e5', cl (n := n) (by omega), e5'', cl (n := n) (by omega), e5''']
        have hv := vpi (n := n) (N := 7) hn7 (by decide)
        refine ⟨fun q => (nomatch q), fun _ => ⟨fun _ => ⟨hv, hv, hv, Or.inr rfl, ret_I' rfl ?_ rfl⟩, fun q => absurd ((lt5 (b := 7) (by omega) (by decide)).mpr hn7) q⟩⟩
        rw [nI_1, ← putP_at]
        rfl
/-- the same outside what the reader of texts writes -/
def agT (C' C : Nat → Nat → Int32) : Prop := ∀ x i, ¬ (x = 65 ∨ x = 66 ∨ x = 67 ∨ (x = 63 ∧ (i = 5 ∨ i = 6))) → C' x i = C x i
theorem agT.rf : agT C C := fun _ _ _ => rfl
theorem agT.tr {A B C : Nat → Nat → Int32} (h1 : agT A B) (h2 : agT B C) : agT A C := fun x i h => (h1 x i h).trans (h2 x i h)
theorem agT_at {b : Nat} : agT (atC C b) C := fun x i h => by
  simp only [atC, am_u2_at]
  rw [if_neg]
  rintro ⟨rfl, rfl⟩
  exact h (by simp)
theorem agT_put {n : Nat} {x : Nat × Nat × Nat} : agT (putP C n x) C := fun y i h => by
  simp only [putP, am_u2_at]
  rw [if_neg, if_neg, if_neg, if_neg]
  · rintro ⟨rfl, rfl⟩; exact h (by simp)
  · rintro ⟨rfl, rfl⟩; exact h (by simp)
  · rintro ⟨rfl, rfl⟩; exact h (by simp)
  · rintro ⟨rfl, rfl⟩; exact h (by simp)
theorem agT_putL : ∀ (l : List (Nat × Nat × Nat)) (n : Nat) (C : Nat → Nat → Int32), agT (putL C n l) C
  | [], _, _ => agT.rf
  | x :: l, n, C => (agT_putL l (n + 1) (putP C n x)).tr agT_put
theorem putP_5 {n : Nat} {x : Nat × Nat × Nat} : putP C n x 63 5 = nI (n + 1) := by simp [putP, am_u2]
theorem agT_64 {C' : Nat → Nat → Int32} (h : agT C' C) : C' 64 = C 64 := funext fun i => h 64 i (by omega)
theorem rp_loop {Post : Option Value → aW → Prop} : ∀ (k i a : Nat) (C : Nat → Nat → Int32), i + k = 8 → C 63 1 = nI L → L ≤ 60 → a ≤ L → 8 * i ≤ a → C 63 5 = nI i →
    ((pall L (C 64) k a).2 = none → ∀ C', agT C' C → Post (some (.int (nI (pall L (C 64) k a).1))) (am_w C' p)) →
    (∀ l, (pall L (C 64) k a).2 = some l → Post (some (.int (-1))) (am_w (atC (putL C i l) L) p)) →
    am_At (d + 5) 5 none Post 12 [some (.ref 63), some (.int (nI i))] [] (am_w (atC C a) p) (0, 0)
  | 0, i, a, C, hi, hL, h60, ha, h8, hn, hno, hok => by omega
  | k + 1, i, a, C, hi, hL, h60, ha, h8, hn, hno, hok => by
    obtain ⟨q1, q2⟩ := ppt_in (ch := C 64) ha
    apply s_T_readPointings_12
    refine ⟨fun h => ?_, fun _ => ?_⟩
    · have := (lt5 (a := 7) (b := i) (by decide) (by omega)).mp h
      omega
    · refine use_I (m_T_readPointing (n := i) hL h60 ha hn (by omega) ?_) ?_
      · intro h7
        cases hx : (ppt L (C 64) a).2 with
        | none => rfl
        | some x =>
          have := (q2 x hx).2.2.2
          omega
      · apply s_T_readPointings_22
        rw [bI_eq]
        unfold pall at hno hok
        generalize ppt L (C 64) a = r at hno hok q1 q2
        obtain ⟨b, o⟩ := r
        cases o with
        | none =>
          dsimp only at hno
          refine ⟨fun q => absurd rfl q, fun _ => ?_⟩
          show Post (some (.int (atC C b 63 6))) (am_w (atC C b) p)
          rw [atC_at]
          exact hno rfl _ agT_at
        | some x =>
          have hx := q2 x rfl
          dsimp only at hno hok q1 hx ⊢
          refine ⟨fun _ => ?_, fun q => nomatch q⟩
          rw [atC_at, atC_1, show putP C i x 63 1 = nI L by rw [agT_put 63 1 (by decide), hL]]
          have heq : nI b = nI L ↔ b = L := eq5 (by omega) (by omega)
          rw [heq]
          have hL' : putP C i x 63 1 = nI L := by rw [agT_put 63 1 (by decide), hL]
          have h64 : putP C i x 64 = C 64 := agT_64 agT_put
          refine ⟨fun hb => ?_, fun hb => ?_⟩
          · rw [if_neg hb] at hno hok
            refine use_I (m_T_skip hL' h60 q1) ?_
            apply s_T_readPointings_49
            rw [bI_eq, h64]
            cases hs : skp L (C 64) 59 b with
            | false =>
              rw [hs] at hno
              refine ⟨fun q => absurd rfl q, fun _ => ?_⟩
              show Post (some (.int (atC (putP C i x) b 63 6))) (am_w (atC (putP C i x) b) p)
              rw [atC_at]
              exact hno rfl _ (agT_at.tr agT_put)
            | true =>
              rw [hs] at hno hok
              refine ⟨fun _ => ?_, fun q => nomatch q⟩
              rw [nI_1]
              refine rp_loop k (i + 1) (b + 1) (putP C i x) (by omega) hL' h60 (skp_lt hs) (by omega) putP_5 ?_ ?_
              · intro hnone C' hC'
                rw [h64] at hnone ⊢
                simp only [if_true] at hno
                revert hno
                generalize pall L (C 64) k (b + 1) = r2 at hnone ⊢
                obtain ⟨c, o2⟩ := r2
                dsimp only at hnone
                subst hnone
                intro hno
                exact hno rfl C' (hC'.tr agT_put)
              · intro l hl
                rw [h64] at hl
                simp only [if_true] at hok
                revert hok
                generalize pall L (C 64) k (b + 1) = r2 at hl ⊢
                obtain ⟨c, o2⟩ := r2
                dsimp only at hl
                subst hl
                intro hok
                exact hok (x :: l) rfl
          · rw [if_pos hb] at hok
            subst hb
            exact hok [x] rfl
theorem rp_start (hL : C 63 1 = nI L) (h60 : L ≤ 60) {Post : Option Value → aW → Prop} (hno : (pall L (C 64) 8 0).2 = none → ∀ C', agT C' C → Post (some (.int (nI (pall L (C 64) 8 0).1))) (am_w C' p))
    (hok : ∀ l, (pall L (C 64) 8 0).2 = some l → Post (some (.int (-1))) (am_w (atC (putL (am_u2 C 63 5 0) 0 l) L) p)) : am_At (d + 5) 5 none Post 0 [some (.ref 63), none] [] (am_w C p) (0, 0) := by
  apply s_T_readPointings_0
  have e : am_u2 (am_u2 C 63 6 0) 63 5 0 = atC (am_u2 C 63 5 0) 0 := by
    funext x i
    simp only [atC, am_u2_at]
    by_cases h5 : x = 63 ∧ i = 5
    · obtain ⟨rfl, rfl⟩ := h5
      simp
    · simp [h5]
      rfl
  have a5 : agT (am_u2 C 63 5 0) C := fun x i h => by
    simp only [am_u2_at]
    rw [if_neg]
    rintro ⟨rfl, rfl⟩
    exact h (by simp)
  have e64 : am_u2 C 63 5 0 64 = C 64 := agT_64 a5
  rw [e]
  refine rp_loop 8 0 0 (am_u2 C 63 5 0) rfl (by rw [a5 63 1 (by decide), hL]) h60 (Nat.zero_le _) (Nat.le_refl _) (by simp [am_u2]; rfl) ?_ ?_
  · rw [e64]
    exact fun h C' hC' => hno h C' (hC'.tr a5)
  · rw [e64]
    exact hok
theorem m_T_readPointings_ok (hL : C 63 1 = nI L) (h60 : L ≤ 60) {l : List (Nat × Nat × Nat)} (hl : (pall L (C 64) 8 0).2 = some l) : cI (d + 5) 5 [.ref 63] C p (-1) (atC (putL (am_u2 C 63 5 0) 0 l) L) p := by
  apply e_T_readPointings
  refine rp_start hL h60 (fun h => ?_) (fun l' h' => ?_)
  · rw [hl] at h
    cases h
  · rw [hl] at h'
    cases h'
    exact ret_I
theorem m_T_readPointings_no (hL : C 63 1 = nI L) (h60 : L ≤ 60) (hl : (pall L (C 64) 8 0).2 = none) : am_Call (d + 5) 5 [.ref 63] (am_w C p) (am_Ret (fun r C' p' => r = some (.int (nI (pall L (C 64) 8 0).1)) ∧ agT C' C ∧ p' = p)) := by
  apply e_T_readPointings
  refine rp_start hL h60 (fun _ C' h' => ⟨C', p, rfl, rfl, h', rfl⟩) (fun l' h' => ?_)
  rw [hl] at h'
  cases h'
theorem putL_5 : ∀ (l : List (Nat × Nat × Nat)) (n : Nat) (C : Nat → Nat → Int32), C 63 5 = nI n → putL C n l 63 5 = nI (n + l.length)
  | [], n, C, h => h
  | x :: l, n, C, h => by
    have := putL_5 l (n + 1) (putP C n x) putP_5
    rw [putL, this, List.length_cons, show n + 1 + l.length = n + (l.length + 1) by omega]
theorem putL_lo : ∀ (l : List (Nat × Nat × Nat)) (n : Nat) (C : Nat → Nat → Int32) (y i : Nat), (y = 65 ∨ y = 66 ∨ y = 67) → i < n → putL C n l y i = C y i
  | [], n, C, y, i, hy, hi => rfl
  | x :: l, n, C, y, i, hy, hi => by
    rw [putL, putL_lo l (n + 1) (putP C n x) y i hy (by omega)]
    simp only [putP, am_u2_at]
    rw [if_neg (by omega), if_neg (by omega), if_neg (by omega), if_neg (by omega)]
theorem putL_at : ∀ (l : List (Nat × Nat × Nat)) (n : Nat) (C : Nat → Nat → Int32) (k : Nat) (x : Nat × Nat × Nat), l[k]? = some x → putL C n l 65 (n + k) = nI x.1 ∧ putL C n l 66 (n + k) = nI x.2.1 ∧ putL C n l 67 (n + k) = nI x.2.2
  | [], n, C, k, x, h => by simp at h
  | y :: l, n, C, 0, x, h => by
    cases h
    refine ⟨?_, ?_, ?_⟩ <;> rw [putL, putL_lo _ _ _ _ _ (by decide) (by omega)] <;> simp [putP, am_u2]
  | y :: l, n, C, k + 1, x, h => by
    have := putL_at l (n + 1) (putP C n y) k x h
    rw [show n + 1 + k = n + (k + 1) by omega] at this
    exact this
end
