/-! pointAll -/
def bit (m : Int32) (j : Nat) : Bool := m.toBitVec.getLsbD j
theorem sh_tw : ∀ j, j < 12 → ((1 : Int32) <<< (nI j &&& 31)).toBitVec = BitVec.twoPow 32 j := by decide
theorem bit_and {m : Int32} {j : Nat} (hj : j < 12) : m &&& ((1 : Int32) <<< (nI j &&& 31)) = 0 ↔ bit m j = false := by
  rw [← Int32.toBitVec_inj, Int32.toBitVec_and, sh_tw j hj, BitVec.and_twoPow]
  unfold bit
  cases m.toBitVec.getLsbD j with
  | false => simp
  | true =>
    simp only [if_true, Bool.true_eq_false, iff_false]
    intro h
    have := congrArg (fun b => b.getLsbD j) h
    simp [BitVec.getLsbD_twoPow] at this
    omega
theorem bit_or {m : Int32} {j k : Nat} (hj : j < 12) (hk : k < 12) : bit (m ||| ((1 : Int32) <<< (nI j &&& 31))) k = (bit m k || decide (k = j)) := by
  unfold bit
  rw [Int32.toBitVec_or, sh_tw j hj, BitVec.getLsbD_or, BitVec.getLsbD_twoPow]
  congr 1
  by_cases h : k = j
  · simp [h]; omega
  · simp [h]
    intro _ e
    exact h e.symm
theorem bit_0 {j : Nat} : bit 0 j = false := by simp [bit]
theorem plc_none {f : aFace} {x : Int32} : plc f x = none ↔ ∀ k, k < f.1 → f.2.1 k ≠ x := by
  refine ⟨fun h k hk => fd_none h k (Nat.zero_le _) (by omega), fun h => ?_⟩
  cases hp : plc f x with
  | none => rfl
  | some k => exact absurd (plc_lt hp).2 (h k (plc_lt hp).1)
theorem plc_fadd {f : aFace} {t rd x : Int32} : plc (fadd f t rd) x = none ↔ plc f x = none ∧ t ≠ x := by
  rw [plc_none, plc_none]
  refine ⟨fun h => ⟨fun k hk => ?_, ?_⟩, fun h k hk => ?_⟩
  · have := h k (by show k < f.1 + 1; omega)
    simp only [fadd] at this
    rw [cut_lt (by omega), if_neg (by omega)] at this
    exact this
  · have := h f.1 (by show f.1 < f.1 + 1; omega)
    simp only [fadd] at this
    rw [cut_lt (by omega), if_pos rfl] at this
    exact this
  · have hk2 : k < f.1 + 1 := hk
    simp only [fadd]
    rw [cut_lt hk2]
    by_cases e : k = f.1
    · rw [if_pos e]; exact h.2
    · rw [if_neg e]; exact h.1 k (by omega)
/-- may the face take the target -/
def can (f : aFace) (t : Int32) : Bool := decide (f.2.2.2.2 = -1 ∧ plc f t = none)
def rwn (u r f : Nat) : Nat := (u * 6 + r) * 2 + f
def addsA (u r : Nat) : aS → List (Nat × Nat × Nat) → Option aS
  | A, [] => some A
  | A, x :: l => if can (aF A (rwn u r x.2.1)) (nI x.1) then addsA u r (upF A (rwn u r x.2.1) (fadd (aF A (rwn u r x.2.1)) (nI x.1) (nI x.2.2))) l else none
def oPointAll (G : aGl) (u r : Int32) : Int32 × aGl := if hrA (gcur G) u r = false then (-2000001, G) else match pall (gtxt G).1 (gtxt G).2 8 0 with
  | (a, none) => (-2000100 - nI a, G)
  | (_, some l) => match addsA (cn u) (cn r) (gcur G) l with
    | none => (-2000004, G)
    | some B => (nI l.length, grec G B)
theorem pall_in {L : Nat} {ch : Nat → Int32} : ∀ (n a : Nat) (l : List (Nat × Nat × Nat)), a ≤ L → (pall L ch n a).2 = some l → (∀ x, x ∈ l → x.1 < 6 ∧ x.2.1 < 2 ∧ x.2.2 < 1296000) ∧ a + 8 * l.length ≤ L + 1
  | 0, a, l, _, h => by cases h
  | n + 1, a, l, ha, h => by
    unfold pall at h
    have hp := ppt_in (ch := ch) ha
    generalize ppt L ch a = y at h hp
    obtain ⟨b, o⟩ := y
    cases o with
    | none => cases h
    | some x =>
      obtain ⟨p1, p2⟩ := hp
      obtain ⟨q1, q2, q3, q4⟩ := p2 x rfl
      simp only at h p1 q4
      by_cases e : b = L
      · rw [if_pos e] at h
        cases h
        refine ⟨fun y hy => ?_, ?_⟩
        · rw [List.mem_singleton] at hy
          rw [hy]
          exact ⟨q1, q2, q3⟩
        · simp only [List.length_singleton]
          omega
      · rw [if_neg e] at h
        by_cases e2 : skp L ch 59 b = true
        · rw [if_pos e2] at h
          have ih := pall_in (L := L) (ch := ch) n (b + 1)
          generalize pall L ch n (b + 1) = z at h ih
          obtain ⟨c, o2⟩ := z
          cases o2 with
          | none => cases h
          | some l2 =>
            cases h
            obtain ⟨i1, i2⟩ := ih l2 (by have := skp_lt e2; omega) rfl
            refine ⟨fun y hy => ?_, ?_⟩
            · rcases List.mem_cons.mp hy with hy | hy
              · rw [hy]; exact ⟨q1, q2, q3⟩
              · exact i1 y hy
            · simp only [List.length_cons]
              omega
        · rw [if_neg e2] at h
          cases h
theorem pall_le {L : Nat} {ch : Nat → Int32} : ∀ (n a : Nat), a ≤ L → (pall L ch n a).1 ≤ L
  | 0, a, ha => ha
  | n + 1, a, ha => by
    unfold pall
    have hp := ppt_in (ch := ch) ha
    generalize ppt L ch a = y at hp ⊢
    obtain ⟨b, o⟩ := y
    obtain ⟨p1, p2⟩ := hp
    cases o with
    | none => exact p1
    | some x =>
      simp only at p1 ⊢
      by_cases e : b = L
      · rw [if_pos e]; exact p1
      · rw [if_neg e]
        by_cases e2 : skp L ch 59 b = true
        · rw [if_pos e2]
          have ih := pall_le (L := L) (ch := ch) n (b + 1) (by have := skp_lt e2; omega)
          generalize pall L ch n (b + 1) = z at ih ⊢
          obtain ⟨c, o2⟩ := z
          cases o2 <;> exact ih
        · rw [if_neg e2]; exact p1
theorem good_can {A : aS} {u r t f rd : Nat} (hg : good A) (hu : u < 4) (hr : r < aR A u) (ht : t < 6) (hf : f < 2) (hc : can (aF A (rwn u r f)) (nI t) = true) : good (upF A (rwn u r f) (fadd (aF A (rwn u r f)) (nI t) (nI rd))) ∧ (aF A (rwn u r f)).1 < 6 := by
  have h6 := (hg.2.2.2.1 u hu).1
  have hk := hg.2.2.2.2.1 (rwn u r f) (by unfold rwn; omega)
  simp only [can, decide_eq_true_eq] at hc
  have hro := fok_room hk ht hc.2
  exact ⟨good_upF hg hu hr hf (fok_fadd hk hro ht hc.2), hro⟩
theorem good_adds {u r : Nat} : ∀ (l : List (Nat × Nat × Nat)) (A B : aS), good A → u < 4 → r < aR A u → (∀ x, x ∈ l → x.1 < 6 ∧ x.2.1 < 2 ∧ x.2.2 < 1296000) → addsA u r A l = some B → good B
  | [], A, B, hg, _, _, _, h => by cases h; exact hg
  | x :: l, A, B, hg, hu, hr, hx, h => by
    unfold addsA at h
    by_cases hc : can (aF A (rwn u r x.2.1)) (nI x.1) = true
    · rw [if_pos hc] at h
      obtain ⟨a, b, c⟩ := hx x (List.mem_cons_self ..)
      exact good_adds l _ B (good_can hg hu hr a b hc).1 hu hr (fun y hy => hx y (List.mem_cons_of_mem _ hy)) h
    · rw [if_neg hc] at h
      cases h
/-- the text's pointings as they were read -/
def rdL (C : Nat → Nat → Int32) (i : Nat) (l : List (Nat × Nat × Nat)) : Prop := ∀ k x, l[k]? = some x → C 65 (i + k) = nI x.1 ∧ C 66 (i + k) = nI x.2.1 ∧ C 67 (i + k) = nI x.2.2
theorem rdL_hd {C : Nat → Nat → Int32} {i : Nat} {x : Nat × Nat × Nat} {l : List (Nat × Nat × Nat)} (h : rdL C i (x :: l)) : (C 65 i = nI x.1 ∧ C 66 i = nI x.2.1 ∧ C 67 i = nI x.2.2) ∧ rdL C (i + 1) l := by
  refine ⟨h 0 x rfl, fun k y hy => ?_⟩
  have := h (k + 1) y hy
  rw [show i + (k + 1) = i + 1 + k by omega] at this
  exact this
section
variable {d : Nat} {C : Nat → Nat → Int32} {p : Nat → Option Nat} {G : aGl}
/-- of what is read, the mask holds m; B is A with it taken -/
def mk (u r : Nat) (A B : aS) (m : Int32) : Prop := ∀ f t, f < 2 → t < 6 → (aF B (rwn u r f)).2.2.2.2 = (aF A (rwn u r f)).2.2.2.2 ∧ (plc (aF B (rwn u r f)) (nI t) = none ↔ plc (aF A (rwn u r f)) (nI t) = none ∧ bit m (f * 6 + t) = false)
theorem mk_step {u r f t rd : Nat} {A B : aS} {m : Int32} (hf : f < 2) (ht : t < 6) (h : mk u r A B m) : mk u r A (upF B (rwn u r f) (fadd (aF B (rwn u r f)) (nI t) (nI rd))) (m ||| ((1 : Int32) <<< (nI (f * 6 + t) &&& 31))) := by
  intro f' t' hf' ht'
  obtain ⟨h1, h2⟩ := h f' t' hf' ht'
  have e : aF (upF B (rwn u r f) (fadd (aF B (rwn u r f)) (nI t) (nI rd))) (rwn u r f') = if f' = f then fadd (aF B (rwn u r f)) (nI t) (nI rd) else aF B (rwn u r f') := by
    show (if rwn u r f' = rwn u r f then fadd (aF B (rwn u r f)) (nI t) (nI rd) else aF B (rwn u r f')) = _
    by_cases e : f' = f
    · rw [if_pos e, if_pos (by rw [e])]
    · rw [if_neg e, if_neg (by unfold rwn; omega)]
  rw [e, bit_or (by omega) (by omega)]
  by_cases e : f' = f
  · subst e
    rw [if_pos rfl]
    refine ⟨h1, ?_⟩
    rw [plc_fadd, h2]
    have e2 : (nI t ≠ nI t') ↔ ¬ (f' * 6 + t' = f' * 6 + t) := by
      rw [Ne, eq5 (by omega) (by omega)]
      omega
    rw [e2, Bool.or_eq_false_iff, decide_eq_false_iff_not, and_assoc]
  · rw [if_neg e]
    refine ⟨h1, ?_⟩
    rw [h2, Bool.or_eq_false_iff, decide_eq_false_iff_not]
    have : ¬ (f' * 6 + t' = f * 6 + t) := by omega
    simp [this]
theorem m_F_canTakeText {u r : Nat} {A : aS} {l : List (Nat × Nat × Nat)} (hs : sees 1 C A) (hg : good A) (hu : u < 4) (hr : r < aR A u) (hl : rdL C 0 l) (hn : C 63 5 = nI l.length) (h7 : l.length ≤ 7) (hx : ∀ x, x ∈ l → x.1 < 6 ∧ x.2.1 < 2 ∧ x.2.2 < 1296000) : cI (d + 3) 80 [.ref 0, .int (nI u), .int (nI r)] C p (bI (addsA u r A l).isSome) C p := by
  have h6 := (hg.2.2.2.1 u hu).1
  have loop : ∀ (s : List (Nat × Nat × Nat)) (i : Nat) (B : aS) (m : Int32) (o5 o6 : Option Value), rdL C i s → i + s.length = l.length → (∀ x, x ∈ s → x.1 < 6 ∧ x.2.1 < 2 ∧ x.2.2 < 1296000) → mk u r A B m →
      am_At (d + 3) 80 none (am_Ret (am_eI (bI (addsA u r B s).isSome) C p)) 5 [some (.ref 0), some (.int (nI u)), some (.int (nI r)), some (.int m), some (.int (nI i)), o5, o6] [] (am_w C p) (0, 0) := by
    intro s
    induction s with
    | nil =>
      intro i B m o5 o6 hs2 hi hx2 hm
      apply s_F_canTakeText_5
      rw [hn]
      simp only [List.length_nil] at hi
      refine ⟨fun _ => ⟨Or.inr rfl, ret_I' rfl rfl rfl⟩, fun h => absurd ((le5 (by omega) (by omega)).mpr (by omega)) h⟩
    | cons x s ih =>
      intro i B m o5 o6 hs2 hi hx2 hm
      simp only [List.length_cons] at hi
      obtain ⟨⟨c1, c2, c3⟩, hs3⟩ := rdL_hd hs2
      obtain ⟨x1, x2, x3⟩ := hx2 x (List.mem_cons_self ..)
      apply s_F_canTakeText_5
      rw [hn, cl (n := i) (by omega), c2, c1]
      have hv := vpi (n := i) (N := 7) (by omega) (by decide)
      refine ⟨fun h => absurd ((le5 (by omega) (by omega)).mp h) (by omega), fun _ => ⟨hv, hv, hv, use_I m_F_rowOf (s_F_canTakeText_60 ?_)⟩⟩
      rw [ix6, bit_and (by omega), cl (n := i) (by omega), c1]
      have hrow : (u * 6 + r) * 2 + x.2.1 < 48 := by omega
      obtain ⟨m1, m2⟩ := hm x.2.1 x.1 x2 x1
      have hB : can (aF B (rwn u r x.2.1)) (nI x.1) = true ↔ (aF A (rwn u r x.2.1)).2.2.2.2 = -1 ∧ plc (aF A (rwn u r x.2.1)) (nI x.1) = none ∧ bit m (x.2.1 * 6 + x.1) = false := by
        rw [can, decide_eq_true_eq, m1, m2]
      refine ⟨fun h => ⟨Or.inl rfl, ret_I' ?_ rfl rfl⟩, fun h => ⟨hv, use_I (m_S_canTake hrow (sees_cok hs hg hrow)) (s_F_canTakeText_88 ?_)⟩⟩
      · rw [addsA, if_neg (fun e => h (hB.mp e).2.2)]
        rfl
      · rw [sees_f hs hrow]
        refine ⟨fun h3 => ?_, fun h3 => ⟨Or.inl rfl, ret_I' ?_ rfl rfl⟩⟩
        · rw [bI_ne, decide_eq_true_eq] at h3
          rw [addsA, if_pos (hB.mpr ⟨h3.1, h3.2, h⟩), nI_1]
          exact ih (i + 1) _ _ _ _ hs3 (by omega) (fun y hy => hx2 y (List.mem_cons_of_mem _ hy)) (mk_step x2 x1 hm)
        · rw [bI_eq, decide_eq_false_iff_not] at h3
          rw [addsA, if_neg (fun e => h3 ⟨(hB.mp e).1, (hB.mp e).2.1⟩)]
          rfl
  apply e_F_canTakeText
  apply s_F_canTakeText_0
  refine loop l 0 A 0 _ _ hl (by omega) hx (fun f t hf ht => ⟨rfl, ?_⟩)
  rw [bit_0]
  simp
theorem m_pointAll {u r : Int32} (hg : gG G) (hs : seeG C p G) : am_Call (d + 6) 54 [.ref 0, .int u, .int r] (am_w C p) (am_Ret (fP C (oPointAll G u r))) := by
  apply e_F_pointAll
  apply s_F_pointAll_0
  refine use_I (m_S_hasRound (C10_4 hs.1 hg.1)) (s_F_pointAll_9 ?_)
  rw [hrd_A hs.1 hg.1]
  refine ⟨fun h1 => ?_, fun h => leaf0 hs (by rw [oPointAll, if_pos (bI_eq.mp h)])⟩
  rw [bI_ne] at h1
  have E : oPointAll G u r = match pall (gtxt G).1 (gtxt G).2 8 0 with
      | (a, none) => (-2000100 - nI a, G)
      | (_, some l) => match addsA (cn u) (cn r) (gcur G) l with
        | none => (-2000004, G)
        | some B => (nI l.length, grec G B) := by
    rw [oPointAll, if_neg (by rw [h1]; decide)]
  obtain ⟨un, rn, rfl, hu1, hu, rfl, hr1, hr⟩ := hrA_ok h1 hg.1
  rw [cn_nI (by omega), cn_nI (by omega)] at E
  have hL : C 63 1 = nI (gtxt G).1 := hs.2.2.2.2.1
  have h64 : C 64 = (gtxt G).2 := hs.2.2.2.2.2.1
  have h60 : (gtxt G).1 ≤ 60 := hg.2.2.2.2
  cases hp : (pall (gtxt G).1 (gtxt G).2 8 0).2 with
  | none =>
    have h5 := m_T_readPointings_no (d := d) (C := C) (p := p) hL h60 (by rw [h64]; exact hp)
    rw [h64] at h5
    refine use_IP (R := fun e C' => e = nI (pall (gtxt G).1 (gtxt G).2 8 0).1 ∧ agT C' C) (am_Call.mono h5 (fun r w' hw => ?_)) (fun e C' he => s_F_pointAll_22 ?_)
    · obtain ⟨C', p', e1, e2, e3, e4⟩ := hw
      exact ⟨C', p', e1, _, e2, e4, rfl, e3⟩
    · have hle := pall_le (ch := (gtxt G).2) 8 0 (Nat.zero_le (gtxt G).1)
      generalize pall (gtxt G).1 (gtxt G).2 8 0 = y at E hp he hle
      obtain ⟨a, o⟩ := y
      cases hp
      obtain ⟨he1, he2⟩ := he
      simp only at E he1 hle
      refine ⟨fun h => absurd h (by rw [he1]; exact (nI_ne (by omega)).1), fun _ => leaf E (by rw [he1]) (seeG_agT he2 hs) (fun z hz => funext fun i => he2 z i (by omega))⟩
  | some l =>
    obtain ⟨hx, hlen⟩ := pall_in 8 0 l (Nat.zero_le _) hp
    have hp64 : (pall (gtxt G).1 (C 64) 8 0).2 = some l := by rw [h64]; exact hp
    have E2 : oPointAll G (nI un) (nI rn) = match addsA un rn (gcur G) l with
        | none => (-2000004, G)
        | some B => (nI l.length, grec G B) := by
      generalize pall (gtxt G).1 (gtxt G).2 8 0 = y at E hp
      obtain ⟨a, o⟩ := y
      cases hp
      exact E
    refine use_I (m_T_readPointings_ok hL h60 hp64) (s_F_pointAll_22 ⟨fun _ => ?_, fun h => absurd rfl h⟩)
    have hag : agT (atC (putL (am_u2 C 63 5 0) 0 l) (gtxt G).1) C := agT_at.tr ((agT_putL l 0 _).tr (fun x i h => by rw [am_u2_at, if_neg (by omega)]))
    have hs1 := seeG_agT hag hs
    have hfr1 : ∀ z, 74 ≤ z → atC (putL (am_u2 C 63 5 0) 0 l) (gtxt G).1 z = C z := fun z hz => funext fun i => hag z i (by omega)
    have hn1 : atC (putL (am_u2 C 63 5 0) 0 l) (gtxt G).1 63 5 = nI l.length := by
      have e5 : (am_u2 C 63 5 0) 63 5 = nI 0 := by rw [am_u2_at, if_pos ⟨rfl, rfl⟩]; rfl
      rw [atC_5, putL_5 l 0 _ e5, Nat.zero_add]
    have hl1 : rdL (atC (putL (am_u2 C 63 5 0) 0 l) (gtxt G).1) 0 l := by
      intro k x hk
      have e6 : ∀ y i, y ≠ 63 → atC (putL (am_u2 C 63 5 0) 0 l) (gtxt G).1 y i = putL (am_u2 C 63 5 0) 0 l y i := fun y i hy => by rw [atC, am_u2_ne hy]
      rw [e6 _ _ (by decide), e6 _ _ (by decide), e6 _ _ (by decide)]
      exact putL_at l 0 _ k x hk
    generalize atC (putL (am_u2 C 63 5 0) 0 l) (gtxt G).1 = C1 at *
    refine use_I (m_F_canTakeText hs1.1 hg.1 hu hr1 hl1 hn1 (by omega) hx) (s_F_pointAll_39 ⟨fun h => ?_, fun h => leaf (by
      rw [bI_eq] at h
      cases ha : addsA un rn (gcur G) l with
      | none => rw [E2, ha]
      | some B => rw [ha] at h; cases h) rfl hs1 hfr1⟩)
    rw [bI_ne] at h
    obtain ⟨B, hB⟩ := Option.isSome_iff_exists.mp h
    rw [hB] at E2
    refine use_rec hg hs1 fun C' p' hs' hf' => s_F_pointAll_56 ?_
    have loop : ∀ (s : List (Nat × Nat × Nat)) (i : Nat) (A : aS) (D : Nat → Nat → Int32), rdL D i s → D 63 5 = nI l.length → i + s.length = l.length → (∀ x, x ∈ s → x.1 < 6 ∧ x.2.1 < 2 ∧ x.2.2 < 1296000) → good A → rn < aR A un → seeG D p' (grec G A) → (∀ z, 74 ≤ z → D z = C z) → addsA un rn A s = some B →
        am_At (d + 6) 54 none (am_Ret (fP C (oPointAll G (nI un) (nI rn)))) 59 [some (.ref 0), some (.int (nI un)), some (.int (nI rn)), some (.int (-1)), some (.int (nI i))] [] (am_w D p') (0, 0) := by
      intro s
      induction s with
      | nil =>
        intro i A D hd hn hi hx2 hA hrA hD hfD hadd
        cases hadd
        apply s_F_pointAll_59
        rw [hn]
        simp only [List.length_nil] at hi
        exact ⟨fun _ => leaf E2 rfl hD hfD, fun h => absurd ((le5 (by omega) (by omega)).mpr (by omega)) h⟩
      | cons x s ih =>
        intro i A D hd hn hi hx2 hA hrA hD hfD hadd
        simp only [List.length_cons] at hi
        obtain ⟨⟨c1, c2, c3⟩, hd3⟩ := rdL_hd hd
        obtain ⟨x1, x2, x3⟩ := hx2 x (List.mem_cons_self ..)
        unfold addsA at hadd
        by_cases hc : can (aF A (rwn un rn x.2.1)) (nI x.1) = true
        · rw [if_pos hc] at hadd
          have hv := vpi (n := i) (N := 7) (by omega) (by decide)
          have hrow : rwn un rn x.2.1 < 48 := by unfold rwn; omega
          obtain ⟨hg3, h6⟩ := good_can (rd := x.2.2) hA hu hrA x1 x2 hc
          have hsD : sees 1 D A := hD.1
          apply s_F_pointAll_59
          rw [hn, cl (n := i) (by omega), c2]
          refine ⟨fun h => absurd ((le5 (by omega) (by omega)).mp h) (by omega), fun _ => ⟨hv, use_I m_F_rowOf (s_F_pointAll_90 ?_)⟩⟩
          rw [cl (n := i) (by omega), c1, c3]
          have hs4 := sees_add (t := nI x.1) (rd := nI x.2.2) hsD hA hrow h6
          have fr : ∀ z, z = 0 ∨ 11 ≤ z → addC D (rwn un rn x.2.1) (aF A (rwn un rn x.2.1)).1 (nI x.1) (nI x.2.2) z = D z := fun z hz => by
            rw [addC, am_u2_ne (by omega), am_u2_ne (by omega), am_u2_ne (by omega), am_u2_ne (by omega)]
          refine ⟨hv, hv, use_V (m_S_add (row := rwn un rn x.2.1) hrow (face_n hsD hrow) h6) (s_F_pointAll_113 ?_)⟩
          rw [nI_1]
          refine ih (i + 1) _ _ (fun k y hy => ?_) ?_ (by omega) (fun y hy => hx2 y (List.mem_cons_of_mem _ hy)) hg3 hrA (seeG_cur fr hD hs4) (fun z hz => (fr z (by omega)).trans (hfD z hz)) hadd
          · rw [fr 65 (by decide), fr 66 (by decide), fr 67 (by decide)]
            exact hd3 k y hy
          · rw [fr 63 (by decide)]; exact hn
        · rw [if_neg hc] at hadd
          cases hadd
    refine loop l 0 (gcur G) C' (fun k y hy => ?_) ?_ (by omega) hx hg.1 hr1 hs' (fun z hz => (hf' z (by omega)).trans (hfr1 z hz)) hB
    · rw [hf' 65 (by decide), hf' 66 (by decide), hf' 67 (by decide)]
      exact hl1 k y hy
    · rw [hf' 63 (by decide)]; exact hn1
end
