def am_el (pc : Nat) : List Nat → Bool
  | [] => false
  | x :: t => match Nat.beq x pc with
    | true => true
    | false => am_el pc t
/-- at most n steps, up to the places in stops -/
def am_wp (T : List aI) (d k : Nat) (sx : Option (Nat × (Nat → Int32))) (stops : List Nat) (Post : Option Value → aW → Prop) : Nat → Nat → aL → List Value → aW → Nat × Nat → Prop
  | 0, pc, lc, st, w, u => am_At d k sx Post pc lc st w u
  | n + 1, pc, lc, st, w, u => match am_look T pc with
    | none => False
    | some x => am_stp d sx (mC k, mS k) x lc st w u (fun pc' lc' st' w' u' => match am_el pc' stops with
      | true => am_At d k sx Post pc' lc' st' w' u'
      | false => am_wp T d k sx stops Post n pc' lc' st' w' u') Post
theorem am_look_ok : ∀ {T : List aI} {pc : Nat} {x : aI}, am_look T pc = some x → x ∈ T ∧ x.1 = pc
  | [], _, _, h => by cases h
  | y :: t, pc, x, h => by
    unfold am_look at h
    split at h
    · rename_i hb
      cases h
      exact ⟨List.mem_cons_self, Nat.eq_of_beq_eq_true hb⟩
    · obtain ⟨h1, h2⟩ := am_look_ok h
      exact ⟨List.mem_cons_of_mem _ h1, h2⟩
theorem am_wp_ok {T : List aI} {d k : Nat} {sx : Option (Nat × (Nat → Int32))} {stops : List Nat} {Post : Option Value → aW → Prop} (hT : T.all (am_ck k) = true) : ∀ (n pc : Nat) (lc : aL) (st : List Value) (w : aW) (u : Nat × Nat), am_wp T d k sx stops Post n pc lc st w u → am_At d k sx Post pc lc st w u
  | 0, _, _, _, _, _, h => h
  | n + 1, pc, lc, st, w, u, h => by
    unfold am_wp at h
    split at h
    · exact h.elim
    · rename_i x hx
      obtain ⟨h1, h2⟩ := am_look_ok hx
      subst h2
      refine am_stp_ok (List.all_eq_true.mp hT x h1) h ?_
      intro pc' lc' st' w' u' hk
      split at hk
      · exact hk
      · exact am_wp_ok hT n pc' lc' st' w' u' hk
theorem am_At.mono {d k : Nat} {sx : Option (Nat × (Nat → Int32))} {P P' : Option Value → aW → Prop} {pc : Nat} {lc : aL} {st : List Value} {w : aW} {u : Nat × Nat} (h : am_At d k sx P pc lc st w u) (hp : ∀ r w', P r w' → P' r w') : am_At d k sx P' pc lc st w u :=
  fun p l e R s m args below meth c D ty base b t0 Q hF hE hX hbase hret => h p l e R s m args below meth c D ty base b t0 Q hF hE hX hbase (fun r w' u' H locs ls pc' hr => hret r w' u' H locs ls pc' (hp r w' hr))
def am_a1 : List Value → Bool
  | [] => true
  | v :: t => am_cat1 v && am_a1 t
def am_lc (n : Nat) (av : List Value) : aL := av.map some ++ List.replicate (n - av.length) none
theorem am_args {base b t0 : Nat} : ∀ (av : List Value) (i n : Nat) (q : Nat × Value), am_a1 av = true → q ∈ am_al (am_cv base b t0) i (av.map some ++ List.replicate n none) → q ∈ lv_args i (av.map (am_cv base b t0))
  | [], i, n, q, _, h => by
    obtain ⟨j, x⟩ := q
    obtain ⟨v, -, h2, -⟩ := am_al_mem h
    exfalso
    have : ∀ (n k : Nat), am_nth (List.replicate n none) k = none := by
      intro n
      induction n with
      | zero => intro k; rfl
      | succ n ih =>
        intro k
        cases k with
        | zero => rfl
        | succ k => exact ih k
    rw [show (List.map some ([] : List Value) ++ List.replicate n none) = List.replicate n none from rfl, this] at h2
    cases h2
  | v :: t, i, n, q, hc, h => by
    simp only [am_a1, Bool.and_eq_true] at hc
    have hcat : (am_cv base b t0 v).category = 1 := by
      rw [am_cv_cat]
      have := hc.1
      cases v <;> first | rfl | cases this
    have e : lv_args i ((v :: t).map (am_cv base b t0)) = (i, am_cv base b t0 v) :: lv_args (i + 1) (t.map (am_cv base b t0)) := by
      simp [lv_args, hcat]
    rw [e]
    rcases List.mem_cons.mp h with rfl | h
    · exact List.mem_cons_self
    · exact List.mem_cons_of_mem _ (am_args t (i + 1) n q hc.2 h)
theorem am_sl_len {base b t0 : Nat} : ∀ (av : List Value), am_a1 av = true → (lg_sl (av.map (am_cv base b t0))).length = av.length
  | [], _ => rfl
  | v :: t, hc => by
    simp only [am_a1, Bool.and_eq_true] at hc
    have hcat : (am_cv base b t0 v).category = 1 := by
      rw [am_cv_cat]
      have := hc.1
      cases v <;> first | rfl | cases this
    have h := am_sl_len (base := base) (b := b) (t0 := t0) t hc.2
    simp only [lg_sl, List.map_cons, List.flatMap_cons, hcat] at h ⊢
    simp [h]
set_option maxHeartbeats 4000000 in
/-- a method by its body: from its entry with these arguments -/
theorem am_meth {d k : Nat} {av : List Value} {w : aW} {Post : Option Value → aW → Prop} (hp : plainFor (mY k) = true) (ha : am_a1 av = true) (hn : av.length ≤ mL k)
    (h : am_At d k none (fun r w' => Post r w' ∧ w'.1 = w.1 + mC k) 0 (am_lc (mL k) av) [] w (0, 0)) : am_Call d k av w Post := by
  intro l D ty base b t0
  refine va_MetF (cc := mB k) (maxL := mL k) (ret := mR k) hp rfl ?_
  intro p e s m args below meth c s₁ B hml hv
  obtain ⟨rfl, hE, hP, hz⟩ := hv
  have hpre := atoms_spec (ws := am_mw k) B.pre
  have hlocks := B.notSynchronized
  rw [lg_entry_eq]
  have hsl := am_sl_len (base := base) (b := b) (t0 := t0) av ha
  have hl := lv_entry (av.map (am_cv base b t0)) (n := mL k) (by rw [hsl]; exact hn)
  refine h p l e (am_rm d k) s m _ below meth c D ty base b t0 _ ⟨B.exec, B.bytes, hml, findClass_of_methodNamed B.named, fun q hq => hpre q (List.mem_cons_of_mem _ hq), ⟨Nat.le_refl _, Nat.le_refl _, rfl, rfl⟩, fun hi => (name_of_methodNamed B.named B.method).1.trans hi⟩ hE trivial (by omega) ?_ s.heap [] _ (by show s.heap.size + 0 = base + w.1; omega) (Nat.zero_le _) (Nat.zero_le _) hP va_S.rf ?_ ?_
  · intro r w' u' H locs ls pc' ⟨hr, hw⟩ hsz h1 h2 hP' hS' hri
    refine W.widen h1 h2 ?_
    cases r with
    | none =>
      obtain ⟨q1, q2⟩ := hri
      exact W.vret B.exec B.bytes (B.returns.trans q2) (fun t ht hW => ⟨⟨none, w', rfl, hr, hw, by rw [ht]; exact hP'⟩, hS'.F ht⟩) hS'.2.2 q1
    | some v =>
      cases v with
      | int x =>
        obtain ⟨q1, ty', q2, q3⟩ := hri
        exact W.zret B.exec B.bytes (B.returns.trans q2) q3 (fun t ht hW => ⟨⟨some (.int x), w', rfl, hr, hw, by rw [ht]; exact hP'⟩, hS'.F ht⟩) hS'.2.2 q1
      | _ => exact False.elim hri
  · simp [am_lc]
    omega
  · refine ⟨hl.1, hl.2.1, fun q hq => hl.2.2 q ?_⟩
    exact am_args av 0 (mL k - av.length) q ha hq
set_option maxHeartbeats 4000000 in
/-- the same of a method that reads the script -/
theorem am_methX {L : Nat} {xs : Nat → Int32} {d k : Nat} {av : List Value} {w : aW} {Post : Option Value → aW → Prop} (hp : plainFor (mY k) = true) (ha : am_a1 av = true) (hn : av.length ≤ mL k)
    (h : am_At d k (some (L, xs)) (fun r w' => Post r w' ∧ w'.1 = w.1 + mC k) 0 (am_lc (mL k) av) [] w (0, 0)) : am_CallX L xs d k av w Post := by
  intro l D ty base b t0
  refine va_MetF (cc := mB k) (maxL := mL k) (ret := mR k) hp rfl ?_
  intro p e s m args below meth c s₁ B hml hv
  obtain ⟨rfl, ⟨hE, hX, hXb⟩, hP, hz⟩ := hv
  have hpre := atoms_spec (ws := am_mw k) B.pre
  have hlocks := B.notSynchronized
  rw [lg_entry_eq]
  have hsl := am_sl_len (base := base) (b := b) (t0 := t0) av ha
  have hl := lv_entry (av.map (am_cv base b t0)) (n := mL k) (by rw [hsl]; exact hn)
  refine h p l e (am_rm d k) s m _ below meth c D ty base b t0 _ ⟨B.exec, B.bytes, hml, findClass_of_methodNamed B.named, fun q hq => hpre q (List.mem_cons_of_mem _ hq), ⟨Nat.le_refl _, Nat.le_refl _, rfl, rfl⟩, fun hi => (name_of_methodNamed B.named B.method).1.trans hi⟩ hE ⟨hX, by omega, hXb⟩ (by omega) ?_ s.heap [] _ (by show s.heap.size + 0 = base + w.1; omega) (Nat.zero_le _) (Nat.zero_le _) hP va_S.rf ?_ ?_
  · intro r w' u' H locs ls pc' ⟨hr, hw⟩ hsz h1 h2 hP' hS' hri
    refine W.widen h1 h2 ?_
    cases r with
    | none =>
      obtain ⟨q1, q2⟩ := hri
      exact W.vret B.exec B.bytes (B.returns.trans q2) (fun t ht hW => ⟨⟨none, w', rfl, hr, hw, by rw [ht]; exact hP'⟩, hS'.F ht⟩) hS'.2.2 q1
    | some v =>
      cases v with
      | int x =>
        obtain ⟨q1, ty', q2, q3⟩ := hri
        exact W.zret B.exec B.bytes (B.returns.trans q2) q3 (fun t ht hW => ⟨⟨some (.int x), w', rfl, hr, hw, by rw [ht]; exact hP'⟩, hS'.F ht⟩) hS'.2.2 q1
      | _ => exact False.elim hri
  · simp [am_lc]
    omega
  · refine ⟨hl.1, hl.2.1, fun q hq => hl.2.2 q ?_⟩
    exact am_args av 0 (mL k - av.length) q ha hq
theorem am_plain {k : Nat} (h : (am_has am_Vs k || am_has am_Ss k || am_has am_Is k) = true) : plainFor (mY k) = true := by
  simp only [Bool.or_eq_true] at h
  rcases h with (h | h) | h
  · obtain ⟨q, rfl, hq⟩ := am_has_ok am_Vs_ok h
    simp only [am_okV, Bool.and_eq_true] at hq
    exact (am_okC_ok hq.1.1.1.1).2.2.2.2
  · obtain ⟨q, rfl, hq⟩ := am_has_ok am_Ss_ok h
    simp only [am_okS, Bool.and_eq_true] at hq
    exact (am_okC_ok hq.1.1.1).2.2.2.2
  · obtain ⟨q, rfl, hq⟩ := am_has_ok am_Is_ok h
    simp only [am_okI, Bool.and_eq_true] at hq
    exact (am_okC_ok hq.1.1.1).2.2.2.2
theorem am_plainZ {k : Nat} (h : (am_has am_Zs k) = true) : plainFor (mY k) = true := by
  obtain ⟨q, rfl, hq⟩ := am_has_ok am_Zs_ok h
  simp only [am_okZ, Bool.and_eq_true] at hq
  exact (am_okC_ok hq.1).2.2.2.2
theorem am_plainX {k : Nat} (h : (am_has am_Xs k) = true) : plainFor (mY k) = true := by
  obtain ⟨q, rfl, hq⟩ := am_has_ok am_Xs_ok h
  simp only [am_okS, Bool.and_eq_true] at hq
  exact (am_okC_ok hq.1.1.1).2.2.2.2
