theorem am_Call.mono {d k : Nat} {av : List Value} {w : aW} {P P' : Option Value → aW → Prop} (h : am_Call d k av w P) (hp : ∀ r w', P r w' → P' r w') : am_Call d k av w P' := by
  intro l D ty base b t0 p e ha hc hk s m args below hf happ hP hK
  obtain ⟨n, o, h1, h2, h3, ⟨⟨r, w', q1, q2, q3⟩, q4⟩, h5⟩ := h l D ty base b t0 p e ha hc hk s m args below hf happ hP hK
  exact ⟨n, o, h1, h2, h3, ⟨⟨r, w', q1, hp _ _ q2, q3⟩, q4⟩, h5⟩
theorem am_cell_congr {base : Nat} {ty : Nat → ClassId} {w w' : aW} {j : Nat} (h1 : w'.2.1 j = w.2.1 j) (h2 : w'.2.2.1 j = w.2.2.1 j) (h3 : w'.2.2.2 j = w.2.2.2 j) : am_cell base ty w' j = am_cell base ty w j := by
  have hf : am_fv base w' j = am_fv base w j := by
    funext k r
    cases r
    · show Value.int (w'.2.2.1 j k) = Value.int (w.2.2.1 j k)
      rw [h2]
    · show va_rf ((w'.2.2.2 j k).map (base + ·)) = va_rf ((w.2.2.2 j k).map (base + ·))
      rw [h3]
  unfold am_cell
  rw [h1, h2, h3, hf]
theorem am_u2_ne {C : Nat → Nat → Int32} {i k j : Nat} {x : Int32} (h : j ≠ i) : am_u2 C i k x j = C j := by
  funext b
  simp [am_u2, h]
theorem am_uF_ne {C : Nat → Nat → Option Nat} {i k j : Nat} {x : Option Nat} (h : j ≠ i) : am_uF C i k x j = C j := by
  funext b
  simp [am_uF, h]
theorem am_uR_ne {α : Type} {C : Nat → α} {i j : Nat} {x : α} (h : j ≠ i) : am_uR C i x j = C j := by simp [am_uR, h]
theorem am_uS_ne {C : Nat → Nat × Nat} {i j : Nat} {x : Nat × Nat} (h : j ≠ i) : am_uS C i x j = C j := by simp [am_uS, h]
/-- writing an int field -/
theorem am_putC {base : Nat} {ty : Nat → ClassId} {w : aW} {i a k : Nat} {y : Int32} (hi : i < w.1) (hs : w.2.1 i = (0, a)) (hk : (am_fk a)[k]? = some false) :
    (am_ws base ty w).set i (base + i, .inr (a, (am_fl (am_fv base w i) 0 (am_fk a)).set k (.int y))) = am_ws base ty (am_wC w (am_u2 w.2.2.1 i k y)) := by
  refine am_ws_set hi rfl ?_ (fun j hj => am_cell_congr rfl (am_u2_ne hj) rfl)
  rw [am_cell_ob (show (am_wC w (am_u2 w.2.2.1 i k y)).2.1 i = (0, a) from hs)]
  congr 2
  refine (am_fl_set _ _ _ false _ hk ?_ ?_).symm
  · rw [Nat.zero_add]
    show Value.int (am_u2 w.2.2.1 i k y i k) = Value.int y
    simp [am_u2]
  · intro q r hq
    rw [Nat.zero_add] at hq
    cases r
    · show Value.int (am_u2 w.2.2.1 i k y i q) = Value.int (w.2.2.1 i q)
      simp [am_u2, hq]
    · rfl
/-- writing a reference field -/
theorem am_putF {base : Nat} {ty : Nat → ClassId} {w : aW} {i a k j0 : Nat} (hi : i < w.1) (hs : w.2.1 i = (0, a)) (hk : (am_fk a)[k]? = some true) :
    (am_ws base ty w).set i (base + i, .inr (a, (am_fl (am_fv base w i) 0 (am_fk a)).set k (.ref (base + j0)))) = am_ws base ty (am_wF w (am_uF w.2.2.2 i k (some j0))) := by
  refine am_ws_set hi rfl ?_ (fun j hj => am_cell_congr rfl rfl (am_uF_ne hj))
  rw [am_cell_ob (show (am_wF w (am_uF w.2.2.2 i k (some j0))).2.1 i = (0, a) from hs)]
  congr 2
  refine (am_fl_set _ _ _ true _ hk ?_ ?_).symm
  · rw [Nat.zero_add]
    show va_rf ((am_uF w.2.2.2 i k (some j0) i k).map (base + ·)) = _
    simp [am_uF, va_rf]
  · intro q r hq
    rw [Nat.zero_add] at hq
    cases r
    · rfl
    · show va_rf ((am_uF w.2.2.2 i k (some j0) i q).map (base + ·)) = va_rf ((w.2.2.2 i q).map (base + ·))
      simp [am_uF, hq]
/-- writing into an array of numbers -/
theorem am_putA {base : Nat} {ty : Nat → ClassId} {w : aW} {i t n k : Nat} {y : Int32} (hi : i < w.1) (hs : w.2.1 i = (t + 1, n)) (ht : t ≠ 3) :
    (am_ws base ty w).set i (base + i, .inl (ty t, n, .inl (upd (w.2.2.1 i) k y))) = am_ws base ty (am_wC w (am_u2 w.2.2.1 i k y)) := by
  refine am_ws_set hi rfl ?_ (fun j hj => am_cell_congr rfl (am_u2_ne hj) rfl)
  rw [am_cell_ar (show (am_wC w (am_u2 w.2.2.1 i k y)).2.1 i = (t + 1, n) from hs) ht]
  have : (am_wC w (am_u2 w.2.2.1 i k y)).2.2.1 i = upd (w.2.2.1 i) k y := by
    funext q
    show am_u2 w.2.2.1 i k y i q = upd (w.2.2.1 i) k y q
    simp [am_u2, upd]
  rw [this]
theorem am_putR {base : Nat} {ty : Nat → ClassId} {w : aW} {i t n : Nat} {g : Nat → Int32} (hi : i < w.1) (hs : w.2.1 i = (t + 1, n)) (ht : t ≠ 3) :
    (am_ws base ty w).set i (base + i, .inl (ty t, n, .inl g)) = am_ws base ty (am_wC w (am_uR w.2.2.1 i g)) := by
  refine am_ws_set hi rfl ?_ (fun j hj => am_cell_congr rfl (am_uR_ne hj) rfl)
  rw [am_cell_ar (show (am_wC w (am_uR w.2.2.1 i g)).2.1 i = (t + 1, n) from hs) ht]
  have : (am_wC w (am_uR w.2.2.1 i g)).2.2.1 i = g := by
    show am_uR w.2.2.1 i g i = g
    simp [am_uR]
  rw [this]
theorem am_putQ {base : Nat} {ty : Nat → ClassId} {w : aW} {i n k j0 : Nat} (hi : i < w.1) (hs : w.2.1 i = (4, n)) :
    (am_ws base ty w).set i (base + i, .inl (ty 3, n, .inr (.inr (.inr (.inr (va_up (fun j => (w.2.2.2 i j).map (base + ·)) k (some (base + j0)))))))) = am_ws base ty (am_wF w (am_uF w.2.2.2 i k (some j0))) := by
  refine am_ws_set hi rfl ?_ (fun j hj => am_cell_congr rfl rfl (am_uF_ne hj))
  rw [am_cell_aq (show (am_wF w (am_uF w.2.2.2 i k (some j0))).2.1 i = (4, n) from hs)]
  have : (fun j => ((am_wF w (am_uF w.2.2.2 i k (some j0))).2.2.2 i j).map (base + ·)) = va_up (fun j => (w.2.2.2 i j).map (base + ·)) k (some (base + j0)) := by
    funext q
    show (am_uF w.2.2.2 i k (some j0) i q).map (base + ·) = _
    by_cases hq : q = k
    · subst hq
      rw [va_up_self]
      simp [am_uF]
    · rw [va_up_ne _ _ hq]
      simp [am_uF, hq]
  rw [this]
/-- a new cell lies right behind the world -/
theorem am_new_at {D : va_G} {base : Nat} {ty : Nat → ClassId} {w : aW} {q : Nat} {e : va_E} {H1 : Heap} (hD : va_D (am_A base) (am_ws base ty w ++ [(q, e)])) (hP : va_P D vwCl (am_ws base ty w ++ [(q, e)]) H1) (hz : H1.size ≤ base + w.1 + 1) : q = base + w.1 := by
  have hl : (am_ws base ty w ++ [(q, e)])[w.1]? = some (q, e) := by
    rw [List.getElem?_append_right (by rw [am_ws_len]; exact Nat.le_refl _), am_ws_len, Nat.sub_self]
    rfl
  have h1 : base ≤ q := hD.2 _ _ hl
  have h2 : q < H1.size := (hP _ _ hl).lt
  by_cases h : q = base + w.1
  · exact h
  · exfalso
    have h3 : q - base < w.1 := by omega
    have h4 : (am_ws base ty w ++ [(q, e)])[q - base]? = some (base + (q - base), am_cell base ty w (q - base)) := by
      rw [List.getElem?_append_left (by rw [am_ws_len]; exact h3)]
      exact am_ws_get h3
    have h5 := hD.1 _ _ _ _ h4 hl (by show base + (q - base) = q; omega)
    omega
/-- what the fields of a new object hold -/
theorem am_dfl : ∀ a, a < 5 → ∀ j, j < (am_cls a).2.2 → (am_fk a)[j]? = some (match am_tyC a j with
    | .object _ => true
    | .array _ => true
    | _ => false) ∧ defaultValue (am_tyC a j) = (match am_tyC a j with
    | .object _ => .null
    | .array _ => .null
    | _ => .int 0) := by decide +kernel
/-! switches -/
theorem am_tsw_ok {pc : Nat} {lo : Int} {offs : Array Int} {x : Int32} {K : Nat → Prop} {Dd : Prop} : ∀ (sw : List (Int32 × Nat)) (j0 : Nat), am_tsw pc lo offs j0 sw = true → am_sw x K Dd sw →
    (∃ (i t : Nat) (o : Int), i < sw.length ∧ x.toInt = lo + ((j0 + i : Nat) : Int) ∧ offs[j0 + i]? = some o ∧ (pc : Int) + o = (t : Int) ∧ K t) ∨ ((∀ i, i < sw.length → x.toInt ≠ lo + ((j0 + i : Nat) : Int)) ∧ Dd)
  | [], j0, _, h => Or.inr ⟨fun i hi => by simp at hi, h⟩
  | q :: t, j0, hc, h => by
    simp only [am_tsw, Bool.and_eq_true, decide_eq_true_eq] at hc
    obtain ⟨⟨h1, h2⟩, h3⟩ := hc
    by_cases hx : x = q.1
    · left
      split at h2
      · rename_i o ho
        refine ⟨0, q.2, o, by simp, ?_, ho, of_decide_eq_true h2, h.1 hx⟩
        rw [hx, h1]
        simp
      · cases h2
    · rcases am_tsw_ok t (j0 + 1) h3 (h.2 hx) with ⟨i, t', o, a1, a2, a3, a4, a5⟩ | ⟨a1, a2⟩
      · left
        refine ⟨i + 1, t', o, by simp; omega, ?_, ?_, a4, a5⟩
        · rw [a2, show j0 + 1 + i = j0 + (i + 1) by omega]
        · rw [← a3, show j0 + 1 + i = j0 + (i + 1) by omega]
      · right
        refine ⟨fun i hi => ?_, a2⟩
        cases i with
        | zero =>
          intro he
          apply hx
          apply Int32.toInt_inj.mp
          rw [he, h1]
          simp
        | succ i =>
          have := a1 i (by simp at hi; omega)
          rw [show j0 + 1 + i = j0 + (i + 1) by omega] at this
          exact this
theorem am_lsw_ok {pc : Nat} {dflt : Int} {x : Int32} {K : Nat → Prop} {Dd : Prop} : ∀ (L : List (Int × Int)) (sw : List (Int32 × Nat)), L.map (fun q => (q.1, (pc : Int) + q.2)) = sw.map (fun q => (q.1.toInt, (q.2 : Int))) → am_sw x K Dd sw →
    (∃ t : Nat, (pc : Int) + Op.lookupswitch.offset L dflt x.toInt = (t : Int) ∧ K t) ∨ (Op.lookupswitch.offset L dflt x.toInt = dflt ∧ Dd)
  | [], [], _, h => Or.inr ⟨rfl, h⟩
  | [], q :: t, he, h => by simp at he
  | p :: L, [], he, h => by simp at he
  | (a, o) :: L, q :: t, he, h => by
    simp only [List.map_cons, List.cons.injEq, Prod.mk.injEq] at he
    obtain ⟨⟨h1, h2⟩, h3⟩ := he
    rw [Op.lookupswitch.offset_cons]
    by_cases hx : x = q.1
    · left
      refine ⟨q.2, ?_, h.1 hx⟩
      rw [if_pos (by rw [h1, hx]), h2]
    · have hne : ¬ a = x.toInt := fun e => hx (Int32.toInt_inj.mp (by rw [← e, h1]))
      rw [if_neg hne]
      exact am_lsw_ok L t h3 (h.2 hx)
