/-! locals -/
theorem am_al_mem {f : Value → Value} : ∀ {lc : aL} {i j : Nat} {x : Value}, (j, x) ∈ am_al f i lc → ∃ v, i ≤ j ∧ am_nth lc (j - i) = some v ∧ x = f v
  | [], i, j, x, h => by simp [am_al] at h
  | none :: t, i, j, x, h => by
    obtain ⟨v, h1, h2, h3⟩ := am_al_mem (lc := t) (i := i + 1) h
    refine ⟨v, by omega, ?_, h3⟩
    rw [show j - i = (j - (i + 1)) + 1 by omega]
    exact h2
  | some w :: t, i, j, x, h => by
    rcases List.mem_cons.mp h with h | h
    · cases h
      exact ⟨w, Nat.le_refl _, by rw [Nat.sub_self]; rfl, rfl⟩
    · obtain ⟨v, h1, h2, h3⟩ := am_al_mem (lc := t) (i := i + 1) h
      refine ⟨v, by omega, ?_, h3⟩
      rw [show j - i = (j - (i + 1)) + 1 by omega]
      exact h2
theorem am_al_of {f : Value → Value} : ∀ {lc : aL} {i j : Nat} {v : Value}, am_nth lc j = some v → (i + j, f v) ∈ am_al f i lc
  | [], i, j, v, h => by simp [am_nth] at h
  | none :: t, i, j, v, h => by
    cases j with
    | zero => cases h
    | succ j =>
      have h1 := am_al_of (f := f) (lc := t) (i := i + 1) (j := j) (v := v) h
      rw [show i + (j + 1) = i + 1 + j by omega]
      exact h1
  | some w :: t, i, j, v, h => by
    cases j with
    | zero =>
      cases h
      exact List.mem_cons_self
    | succ j =>
      have h1 := am_al_of (f := f) (lc := t) (i := i + 1) (j := j) (v := v) h
      rw [show i + (j + 1) = i + 1 + j by omega]
      exact List.mem_cons_of_mem _ h1
theorem am_rd {ls : Array Slot} {n : Nat} {f : Value → Value} {lc : aL} {i : Nat} {v : Value} (h : lv_has ls n (am_al f 0 lc)) (hv : am_nth lc i = some v) : ls[i]? = some (.val (f v)) := by
  have h1 := h.2.2 _ (am_al_of (f := f) (i := 0) hv)
  rwa [Nat.zero_add] at h1
theorem am_up_len : ∀ (lc : aL) (i : Nat) (v : Option Value), (am_up lc i v).length = lc.length
  | [], _, _ => rfl
  | _ :: _, 0, _ => rfl
  | _ :: t, i + 1, v => by simp [am_up, am_up_len t i v]
theorem am_up_ne : ∀ (lc : aL) (i j : Nat) (v : Option Value), j ≠ i → am_nth (am_up lc i v) j = am_nth lc j
  | [], _, _, _, _ => rfl
  | o :: t, 0, 0, v, h => absurd rfl h
  | o :: t, 0, j + 1, v, h => rfl
  | o :: t, i + 1, 0, v, h => rfl
  | o :: t, i + 1, j + 1, v, h => am_up_ne t i j v (by omega)
theorem am_up_eq : ∀ (lc : aL) (i : Nat) (v : Option Value) (w : Value), am_nth (am_up lc i v) i = some w → v = some w
  | [], _, _, _, h => by simp [am_up, am_nth] at h
  | o :: t, 0, v, w, h => h
  | o :: t, i + 1, v, w, h => am_up_eq t i v w h
theorem am_cv_cat (base b t0 : Nat) (v : Value) : (am_cv base b t0 v).category = v.category := by
  cases v with
  | retAddr q => cases q <;> rfl
  | _ => rfl
theorem am_wr1 {ls' : Array Slot} {n : Nat} {base b t0 : Nat} {lc : aL} {i : Nat} {v : Value} (hn : am_nl lc i = true)
    (h : lv_has ls' n ((i, am_cv base b t0 v) :: (am_al (am_cv base b t0) 0 lc).filter (fun q => !(q.1 == i) && !(q.1 + 1 == i && q.2.category == 2)))) : lv_has ls' n (am_al (am_cv base b t0) 0 (am_up lc i (some v))) := by
  refine ⟨h.1, h.2.1, fun q hq => h.2.2 q ?_⟩
  obtain ⟨j, x⟩ := q
  obtain ⟨w, -, h2, rfl⟩ := am_al_mem hq
  rw [Nat.sub_zero] at h2
  by_cases hj : j = i
  · subst hj
    cases am_up_eq _ _ _ _ h2
    exact List.mem_cons_self
  · rw [am_up_ne _ _ _ _ hj] at h2
    refine List.mem_cons_of_mem _ (List.mem_filter.mpr ⟨?_, ?_⟩)
    · have h3 := am_al_of (f := am_cv base b t0) (i := 0) h2
      rwa [Nat.zero_add] at h3
    · simp only [Bool.and_eq_true, Bool.not_eq_true', beq_eq_false_iff_ne, ne_eq, Bool.and_eq_false_iff]
      refine ⟨hj, ?_⟩
      by_cases hji : j + 1 = i
      · right
        subst hji
        rw [am_cv_cat]
        simp only [am_nl, h2] at hn
        cases w <;> simp [Value.category] at hn ⊢
      · exact Or.inl hji
theorem am_wr2 {ls' : Array Slot} {n : Nat} {base b t0 : Nat} {lc : aL} {i : Nat} {x : Int64} (hn : am_nl lc i = true)
    (h : lv_has ls' n ((i, .long x) :: (am_al (am_cv base b t0) 0 lc).filter (fun q => !(q.1 == i) && (!(q.1 == i + 1) && !(q.1 + 1 == i && q.2.category == 2))))) : lv_has ls' n (am_al (am_cv base b t0) 0 (am_up (am_up lc i (some (.long x))) (i + 1) none)) := by
  refine ⟨h.1, h.2.1, fun q hq => h.2.2 q ?_⟩
  obtain ⟨j, y⟩ := q
  obtain ⟨w, -, h2, rfl⟩ := am_al_mem hq
  rw [Nat.sub_zero] at h2
  by_cases hj1 : j = i + 1
  · subst hj1
    exact absurd (am_up_eq _ _ _ _ h2) (by simp)
  · rw [am_up_ne _ _ _ _ hj1] at h2
    by_cases hj : j = i
    · subst hj
      cases am_up_eq _ _ _ _ h2
      exact List.mem_cons_self
    · rw [am_up_ne _ _ _ _ hj] at h2
      refine List.mem_cons_of_mem _ (List.mem_filter.mpr ⟨?_, ?_⟩)
      · have h3 := am_al_of (f := am_cv base b t0) (i := 0) h2
        rwa [Nat.zero_add] at h3
      · simp only [Bool.and_eq_true, Bool.not_eq_true', beq_eq_false_iff_ne, ne_eq, Bool.and_eq_false_iff]
        refine ⟨hj, hj1, ?_⟩
        by_cases hji : j + 1 = i
        · right
          subst hji
          rw [am_cv_cat]
          simp only [am_nl, h2] at hn
          cases w <;> simp [Value.category] at hn ⊢
        · exact Or.inl hji
/-! what the small conditions say -/
theorem am_gi_ok {lc : aL} {i : Nat} {f : Int32 → Prop} (h : am_gi lc i f) : ∃ x, am_nth lc i = some (.int x) ∧ f x := by
  unfold am_gi at h
  split at h
  · exact ⟨_, by assumption, h⟩
  · exact h.elim
theorem am_gl_ok {lc : aL} {i : Nat} {f : Int64 → Prop} (h : am_gl lc i f) : ∃ x, am_nth lc i = some (.long x) ∧ f x := by
  unfold am_gl at h
  split at h
  · exact ⟨_, by assumption, h⟩
  · exact h.elim
theorem am_ga_ok {lc : aL} {i : Nat} {f : Value → Prop} (h : am_ga lc i f) : ∃ x, am_nth lc i = some x ∧ ((∃ j, x = .ref j) ∨ ∃ j, x = .retAddr j) ∧ f x := by
  unfold am_ga at h
  split at h
  · exact ⟨_, by assumption, Or.inl ⟨_, rfl⟩, h⟩
  · exact ⟨_, by assumption, Or.inr ⟨_, rfl⟩, h⟩
  · exact h.elim
theorem am_i_ok {st : List Value} {f : Int32 → List Value → Prop} (h : am_i st f) : ∃ x r, st = .int x :: r ∧ f x r := by
  unfold am_i at h
  split at h
  · exact ⟨_, _, rfl, h⟩
  · exact h.elim
theorem am_ii_ok {st : List Value} {f : Int32 → Int32 → List Value → Prop} (h : am_ii st f) : ∃ x y r, st = .int y :: .int x :: r ∧ f x y r := by
  unfold am_ii at h
  split at h
  · exact ⟨_, _, _, rfl, h⟩
  · exact h.elim
theorem am_l_ok {st : List Value} {f : Int64 → List Value → Prop} (h : am_l st f) : ∃ x r, st = .long x :: r ∧ f x r := by
  unfold am_l at h
  split at h
  · exact ⟨_, _, rfl, h⟩
  · exact h.elim
theorem am_ll_ok {st : List Value} {f : Int64 → Int64 → List Value → Prop} (h : am_ll st f) : ∃ x y r, st = .long y :: .long x :: r ∧ f x y r := by
  unfold am_ll at h
  split at h
  · exact ⟨_, _, _, rfl, h⟩
  · exact h.elim
theorem am_a_ok {st : List Value} {f : Value → List Value → Prop} (h : am_a st f) : ∃ x r, st = x :: r ∧ ((∃ j, x = .ref j) ∨ ∃ j, x = .retAddr j) ∧ f x r := by
  unfold am_a at h
  split at h
  · exact ⟨_, _, rfl, Or.inl ⟨_, rfl⟩, h⟩
  · exact ⟨_, _, rfl, Or.inr ⟨_, rfl⟩, h⟩
  · exact h.elim
theorem am_sv_ok {lc : aL} {i : Nat} {v : Value} {f : aL → Prop} (h : am_sv lc i v f) : am_nl lc i = true ∧ f (am_up lc i (some v)) := by
  unfold am_sv at h
  split at h
  · exact ⟨by assumption, h⟩
  · exact h.elim
theorem am_sl_ok {lc : aL} {i : Nat} {x : Int64} {f : aL → Prop} (h : am_sl lc i x f) : am_nl lc i = true ∧ f (am_up (am_up lc i (some (.long x))) (i + 1) none) := by
  unfold am_sl at h
  split at h
  · exact ⟨by assumption, h⟩
  · exact h.elim
theorem am_room_ok {u cap : Nat × Nat} {f : Prop} (h : am_room u cap f) : u.1 ≤ cap.1 ∧ u.2 ≤ cap.2 ∧ f := by
  unfold am_room at h
  split at h
  · rename_i hb
    simp only [Bool.and_eq_true] at hb
    exact ⟨Nat.le_of_ble_eq_true hb.1, Nat.le_of_ble_eq_true hb.2, h⟩
  · exact h.elim
theorem am_ob_ok {w : aW} {i ci : Nat} {f : Prop} (h : am_ob w i ci f) : i < w.1 ∧ w.2.1 i = (0, ci) ∧ f := by
  unfold am_ob at h
  split at h
  · rename_i c hb he
    split at h
    · rename_i hc
      refine ⟨by simpa using hb, ?_, h⟩
      rw [he, Nat.eq_of_beq_eq_true hc]
    · exact h.elim
  · exact h.elim
theorem am_ar_ok {w : aW} {i t : Nat} {f : Nat → Prop} (h : am_ar w i t f) : ∃ n, i < w.1 ∧ w.2.1 i = (t + 1, n) ∧ f n := by
  unfold am_ar at h
  split at h
  · rename_i t' n hb he
    split at h
    · rename_i hc
      refine ⟨n, by simpa using hb, ?_, h⟩
      rw [he, Nat.eq_of_beq_eq_true hc]
    · exact h.elim
  · exact h.elim
theorem am_alen_ok {w : aW} {i : Nat} {f : Nat → Prop} (h : am_alen w i f) : ∃ t n, i < w.1 ∧ w.2.1 i = (t + 1, n) ∧ t < 4 ∧ f n := by
  unfold am_alen at h
  split at h
  · rename_i t n hb he
    split at h
    · rename_i ht
      exact ⟨t, n, by simpa using hb, he, by simpa using ht, h⟩
    · exact h.elim
  · exact h.elim
theorem am_cpa_ok {w : aW} {q0 q1 : Nat} {f : Nat → Nat → Nat → Prop} (h : am_cpa w q0 q1 f) : ∃ t n0 n1, q0 < w.1 ∧ q1 < w.1 ∧ w.2.1 q0 = (t + 1, n0) ∧ w.2.1 q1 = (t + 1, n1) ∧ f t n0 n1 := by
  unfold am_cpa at h
  split at h
  · rename_i t0 n0 t1 n1 hb0 hb1 he0 he1
    split at h
    · rename_i hc
      have := Nat.eq_of_beq_eq_true hc
      subst this
      exact ⟨t0, n0, n1, by simpa using hb0, by simpa using hb1, he0, he1, h⟩
    · exact h.elim
  · exact h.elim
theorem am_cs_map (base b t0 : Nat) : ∀ r : List Value, ((r.map (am_cv base b t0)).map fun v => v.category).sum = am_cs r
  | [] => rfl
  | v :: r => by
    have h := am_cs_map base b t0 r
    simp only [List.map_cons, List.sum_cons, am_cv_cat]
    rw [h]
    cases v <;> simp [am_cs, Value.category] <;> omega
theorem am_cs8_ok {r : List Value} {f : Prop} (h : am_cs8 r f) : am_cs r ≤ 8 ∧ f := by
  unfold am_cs8 at h
  split at h
  · rename_i hb
    exact ⟨Nat.le_of_ble_eq_true hb, h⟩
  · exact h.elim
theorem am_pop_ok : ∀ {n : Nat} {st acc : List Value} {f : List Value → List Value → Prop}, am_pop n st acc f → ∃ av r, av.length = n ∧ st = av.reverse ++ r ∧ f (av ++ acc) r
  | 0, st, acc, f, h => ⟨[], st, rfl, rfl, h⟩
  | n + 1, [], acc, f, h => h.elim
  | n + 1, v :: st, acc, f, h => by
    obtain ⟨av, r, h1, h2, h3⟩ := am_pop_ok (n := n) (st := st) (acc := v :: acc) h
    exact ⟨av ++ [v], r, by simp [h1], by simp [h2], by simpa using h3⟩
/-! worlds -/
theorem am_ws_get {base : Nat} {ty : Nat → ClassId} {w : aW} {i : Nat} (h : i < w.1) : (am_ws base ty w)[i]? = some (base + i, am_cell base ty w i) := by
  simp [am_ws, h]
theorem am_ws_len (base : Nat) (ty : Nat → ClassId) (w : aW) : (am_ws base ty w).length = w.1 := by simp [am_ws]
theorem am_ws_set {base : Nat} {ty : Nat → ClassId} {w w' : aW} {i : Nat} {e : va_E} (h : i < w.1) (h1 : w'.1 = w.1) (he : am_cell base ty w' i = e) (ho : ∀ j, j ≠ i → am_cell base ty w' j = am_cell base ty w j) : (am_ws base ty w).set i (base + i, e) = am_ws base ty w' := by
  apply List.ext_getElem?
  intro j
  by_cases hj : j = i
  · subst hj
    rw [List.getElem?_set_self (by rw [am_ws_len]; exact h), am_ws_get (by rw [h1]; exact h), he]
  · rw [List.getElem?_set_ne (fun q => hj q.symm)]
    by_cases hl : j < w.1
    · rw [am_ws_get hl, am_ws_get (by rw [h1]; exact hl), ho j hj]
    · rw [List.getElem?_eq_none (by rw [am_ws_len]; omega), List.getElem?_eq_none (by rw [am_ws_len]; omega)]
theorem am_ws_push {base : Nat} {ty : Nat → ClassId} {w w' : aW} {e : va_E} (h1 : w'.1 = w.1 + 1) (he : am_cell base ty w' w.1 = e) (ho : ∀ j, j < w.1 → am_cell base ty w' j = am_cell base ty w j) : am_ws base ty w ++ [(base + w.1, e)] = am_ws base ty w' := by
  apply List.ext_getElem?
  intro j
  by_cases hl : j < w.1
  · rw [List.getElem?_append_left (by rw [am_ws_len]; exact hl), am_ws_get hl, am_ws_get (by omega), ho j hl]
  · rw [List.getElem?_append_right (by rw [am_ws_len]; omega), am_ws_len]
    by_cases hj : j = w.1
    · subst hj
      rw [Nat.sub_self, am_ws_get (by omega), he]
      rfl
    · rw [List.getElem?_eq_none (by simp; omega), List.getElem?_eq_none (by rw [am_ws_len]; omega)]
theorem am_ws_at {base : Nat} {ty : Nat → ClassId} {w : aW} {k : Nat} {q : Nat × va_E} (h : (am_ws base ty w)[k]? = some q) : k < w.1 ∧ q = (base + k, am_cell base ty w k) := by
  have hl := (List.getElem?_eq_some_iff.mp h).1
  rw [am_ws_len] at hl
  rw [am_ws_get hl] at h
  exact ⟨hl, (Option.some.inj h).symm⟩
theorem am_ws_D (base : Nat) (ty : Nat → ClassId) (w : aW) : va_D (am_A base) (am_ws base ty w) := by
  refine ⟨fun i j p q hi hj hpq => ?_, fun k q hk => ?_⟩
  · obtain ⟨-, rfl⟩ := am_ws_at hi
    obtain ⟨-, rfl⟩ := am_ws_at hj
    have : base + i = base + j := hpq
    omega
  · obtain ⟨-, rfl⟩ := am_ws_at hk
    exact Nat.le_add_right _ _
theorem am_ws_size {D : va_G} {base : Nat} {ty : Nat → ClassId} {w : aW} {H : Heap} (h : va_P D vwCl (am_ws base ty w) H) (hb : base ≤ H.size) : base + w.1 ≤ H.size := by
  by_cases h0 : w.1 = 0
  · omega
  · have := (h (w.1 - 1) _ (am_ws_get (by omega))).lt
    have h2 : base + (w.1 - 1) < H.size := this
    omega
theorem am_cell_ob {base : Nat} {ty : Nat → ClassId} {w : aW} {i ci : Nat} (h : w.2.1 i = (0, ci)) : am_cell base ty w i = .inr (ci, am_fl (am_fv base w i) 0 (am_fk ci)) := by
  unfold am_cell
  rw [h]
theorem am_cell_ar {base : Nat} {ty : Nat → ClassId} {w : aW} {i t n : Nat} (h : w.2.1 i = (t + 1, n)) (ht : t ≠ 3) : am_cell base ty w i = .inl (ty t, n, .inl (w.2.2.1 i)) := by
  unfold am_cell
  rw [h]
  have : Nat.beq t 3 = false := by
    cases hb : Nat.beq t 3 with
    | false => rfl
    | true => exact absurd (Nat.eq_of_beq_eq_true hb) ht
  simp only [this]
theorem am_cell_aq {base : Nat} {ty : Nat → ClassId} {w : aW} {i n : Nat} (h : w.2.1 i = (4, n)) : am_cell base ty w i = .inl (ty 3, n, .inr (.inr (.inr (.inr (fun j => (w.2.2.2 i j).map (base + ·)))))) := by
  unfold am_cell
  rw [h]
theorem am_fl_get (f : Nat → Bool → Value) : ∀ (l : List Bool) (k j : Nat) (r : Bool), l[j]? = some r → (am_fl f k l)[j]? = some (f (k + j) r)
  | [], k, j, r, h => by simp at h
  | x :: t, k, 0, r, h => by
    simp only [List.getElem?_cons_zero, Option.some.injEq] at h
    subst h
    rfl
  | x :: t, k, j + 1, r, h => by
    rw [List.getElem?_cons_succ] at h
    have h1 := am_fl_get f t (k + 1) j r h
    rw [show k + (j + 1) = k + 1 + j by omega, ← h1]
    rfl
theorem am_fl_len (f : Nat → Bool → Value) : ∀ (l : List Bool) (k : Nat), (am_fl f k l).length = l.length
  | [], _ => rfl
  | _ :: t, k => by simp [am_fl, am_fl_len f t (k + 1)]
theorem am_fl_set {f g : Nat → Bool → Value} : ∀ (l : List Bool) (k j : Nat) (r : Bool) (v : Value), l[j]? = some r → g (k + j) r = v → (∀ i b, i ≠ k + j → g i b = f i b) → (am_fl f k l).set j v = am_fl g k l
  | [], k, j, r, v, h, _, _ => by simp at h
  | x :: t, k, 0, r, v, h, hv, ho => by
    simp only [List.getElem?_cons_zero, Option.some.injEq] at h
    subst h
    show v :: am_fl f (k + 1) t = g k x :: am_fl g (k + 1) t
    rw [Nat.add_zero] at hv ho
    rw [hv]
    congr 1
    have : ∀ (l : List Bool) (m : Nat), k < m → am_fl f m l = am_fl g m l := by
      intro l
      induction l with
      | nil => intro m _; rfl
      | cons y l ih =>
        intro m hm
        show f m y :: am_fl f (m + 1) l = g m y :: am_fl g (m + 1) l
        rw [ho m y (by omega), ih (m + 1) (by omega)]
    exact this t (k + 1) (by omega)
  | x :: t, k, j + 1, r, v, h, hv, ho => by
    rw [List.getElem?_cons_succ] at h
    show f k x :: (am_fl f (k + 1) t).set j v = g k x :: am_fl g (k + 1) t
    rw [ho k x (by omega), am_fl_set t (k + 1) j r v h (by rw [← hv]; congr 1; omega) (fun i b hi => ho i b (by omega))]
/-- the stand's count of new cells bounds the heap -/
theorem am_size {p : Program} {l : Launch} {e : Env} {R : Room} {s : State} {m : MethodId} {args : Array Value} {below : List Frame} {meth : Method} {c : Code} {H : Heap} {locs : List Loc} {cells slots : Nat} {Q : State → Prop} {g : JFrame}
    (h : H.size ≤ s.heap.size + cells → W p l e R s m args below meth c H locs cells slots Q g) : W p l e R s m args below meth c H locs cells slots Q g := by
  intro T hT X
  exact h (by rw [← hT]; exact X.heapSize) T hT X
theorem am_inC : ∀ a, a < 5 → ∀ w ∈ u_ws (am_cls a).1 (am_cls a).2.1 (am_cls a).2.2, w ∈ am_tbl := by
  have h : ∀ a, a < 5 → (u_ws (am_cls a).1 (am_cls a).2.1 (am_cls a).2.2).all am_in = true := by decide +kernel
  intro a ha w hw
  exact am_in_ok (List.all_eq_true.mp (h a ha) w hw)
theorem am_nmC : ∀ a, a < 5 → ∀ i, i < (am_cls a).2.2 → ∀ j, j < (am_cls a).2.2 → i ≠ j → ((am_cls a).2.1 i).2.1 ≠ ((am_cls a).2.1 j).2.1 := by decide +kernel
def am_tyC (a : Nat) : Nat → FieldType := fun k => (parseFieldDescriptor ((am_cls a).2.1 k).2.2.1).getD .int
theorem am_tyC_ok : ∀ a, a < 5 → ∀ k, k < (am_cls a).2.2 → parseFieldDescriptor ((am_cls a).2.1 k).2.2.1 = some (am_tyC a k) := by
  have h : ∀ a, a < 5 → ∀ k, k < (am_cls a).2.2 → (parseFieldDescriptor ((am_cls a).2.1 k).2.2.1).isSome = true := by decide +kernel
  intro a ha k hk
  obtain ⟨x, hx⟩ := Option.isSome_iff_exists.mp (h a ha k hk)
  rw [am_tyC, hx]
  rfl
theorem am_clC : ∀ a, a < 5 → vwCl[a]? = some (am_cls a) := by
  intro a ha
  match a, ha with
  | 0, _ => rfl
  | 1, _ => rfl
  | 2, _ => rfl
  | 3, _ => rfl
  | 4, _ => rfl
