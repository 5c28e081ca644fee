theorem am_nest_form : ∀ w ∈ am_nest, ∃ a i x h, w = .methodLinkNest a i x h := by
  intro w hw
  simp only [am_nest, List.mem_cons, List.not_mem_nil, or_false] at hw
  rcases hw with rfl | rfl | rfl | rfl | rfl | rfl <;> exact ⟨_, _, _, _, rfl⟩
theorem am_En.mv {D : va_G} {ty : Nat → ClassId} {base t0 : Nat} {u U : State} {H : Heap} (h : am_En D ty base t0 u H) (hvm : u.vm.Alike U.vm) (hn : ∀ w ∈ am_nest, va_Nw w U) : am_En D ty base t0 U H :=
  ⟨h.1.moved hvm, h.2.1.moved hvm, h.2.2.1.moved hvm, hn, h.2.2.2.2.moved hvm⟩
theorem am_En.call {D : va_G} {ty : Nat → ClassId} {base t0 : Nat} {s U : State} {H : Heap} {locs : List Loc} (h : am_En D ty base t0 s s.heap) (hS : va_S (am_A base) s.heap H locs) (hU : U.heap = H) (hW : s.WarmedH U.vm) : am_En D ty base t0 U U.heap := by
  rw [hU]
  refine am_En.mv (u := s) ⟨h.1, h.2.1.kept hS.2.1, h.2.2.1.kept hS.2.1, h.2.2.2⟩ hW.alike ?_
  intro w hw
  obtain ⟨a, i, x, y, rfl⟩ := am_nest_form w hw
  exact va_Nw.warmM hW (h.2.2.2.1 _ hw)
theorem am_blind {D : va_G} {ty : Nat → ClassId} {base t0 n : Nat} {av : List Value} {ws : va_W} : FrameBlind (va_Pc av (fun U => am_En D ty base t0 U U.heap ∧ va_P D vwCl ws U.heap ∧ U.heap.size = n)) := by
  intro a U g mk h
  obtain ⟨h1, h2, h3, h4⟩ := h
  refine ⟨h1, h2.mv (Vm.Alike.refl U.vm) ?_, h3, h4⟩
  intro w hw
  obtain ⟨a, i, x, y, rfl⟩ := am_nest_form w hw
  exact va_Nw.same rfl rfl (h2.2.2.2.1 _ hw)
theorem am_blindX {L : Nat} {xs : Nat → Int32} {b : Nat} {D : va_G} {ty : Nat → ClassId} {base t0 n : Nat} {av : List Value} {ws : va_W} : FrameBlind (va_Pc av (fun U => (am_En D ty base t0 U U.heap ∧ va_X b L xs U U.heap ∧ b < base) ∧ va_P D vwCl ws U.heap ∧ U.heap.size = n)) := by
  intro a U g mk h
  obtain ⟨h1, ⟨h2, hx, hb⟩, h3, h4⟩ := h
  refine ⟨h1, ⟨h2.mv (Vm.Alike.refl U.vm) ?_, hx.moved (Vm.Alike.refl U.vm), hb⟩, h3, h4⟩
  intro w hw
  obtain ⟨a, i, x, y, rfl⟩ := am_nest_form w hw
  exact va_Nw.same rfl rfl (h2.2.2.2.1 _ hw)
theorem am_code_in {a : Nat} (ha : a < 173) : Cond.code (mY a) (mB a) (mL a) (mR a) ∈ am_tbl := by
  have h := congrArg (fun l => l[a]?) am_codes
  simp only [List.getElem?_map, List.getElem?_range ha, Option.map_some, Option.some.injEq] at h
  exact List.mem_filter.mpr ⟨List.mem_of_getElem? h, rfl⟩
theorem am_goodIn {a : Nat} (ha : a < 173) : GoodIn am_tbl (am_mw a) := by
  intro w hw
  rcases List.mem_cons.mp hw with rfl | hw
  · exact ⟨am_code_in ha, am_tbl_good _ (am_code_in ha)⟩
  · exact ⟨hw, am_tbl_good _ hw⟩
theorem am_goodAt {w : Cond} {big : List Cond} (h : w ∈ am_tbl) : w ∈ am_tbl ∧ ((w.onTables && w.keeps) = true ∨ ∃ ty, w = .arrayClass ty) := ⟨h, am_tbl_good _ h⟩
theorem am_has_ok {l : List (Nat × Nat × Nat × Nat)} {f : Nat × Nat × Nat × Nat → Bool} {a : Nat} (hl : l.all f = true) (h : am_has l a = true) : ∃ q, q.1 = a ∧ f q = true := by
  obtain ⟨q, hq, hb⟩ := List.any_eq_true.mp h
  exact ⟨q, Nat.eq_of_beq_eq_true hb, List.all_eq_true.mp hl q hq⟩
theorem am_okC_ok {q : Nat × Nat × Nat × Nat} (h : am_okC q = true) : (.initialized (mY q.1).cls : Cond) ∈ am_tbl ∧ ((mY q.1).cls ≠ "java/lang/invoke/MethodHandle" ∧ (mY q.1).cls ≠ "java/lang/invoke/VarHandle" ∧ (parseMethodDescriptor (mY q.1).desc).map (fun d => d.parameters.length) = some (mN q.1)) ∧ mL q.1 ≤ 21 ∧ q.1 < 173 ∧ plainFor (mY q.1) = true := by
  simp only [am_okC, Bool.and_eq_true, decide_eq_true_eq] at h
  obtain ⟨⟨⟨⟨⟨⟨h1, h2⟩, h3⟩, h4⟩, h5⟩, h6⟩, h7⟩ := h
  exact ⟨am_wd_ok h1, ⟨h2, h3, h4⟩, Nat.le_of_ble_eq_true h5, by simpa using h6, h7⟩
theorem am_Vs_at {a : Nat} (h : am_has am_Vs a = true) : am_okC (a, 0, 0, 0) = am_okC (a, 0, 0, 0) ∧ (.initialized (mY a).cls : Cond) ∈ am_tbl ∧ ((mY a).cls ≠ "java/lang/invoke/MethodHandle" ∧ (mY a).cls ≠ "java/lang/invoke/VarHandle" ∧ (parseMethodDescriptor (mY a).desc).map (fun d => d.parameters.length) = some (mN a)) ∧ mL a ≤ 21 ∧ a < 173 ∧ (.instanceMethod (mY a) : Cond) ∈ am_tbl ∧ (.selects (mY a).cls (mY a) (mY a) : Cond) ∈ am_tbl ∧ mC a = 0 ∧ mS a = 0 := by
  obtain ⟨q, rfl, hq⟩ := am_has_ok am_Vs_ok h
  simp only [am_okV, Bool.and_eq_true] at hq
  obtain ⟨⟨⟨⟨h1, h2⟩, h3⟩, h4⟩, h5⟩ := hq
  obtain ⟨a1, a2, a3, a4, -⟩ := am_okC_ok h1
  exact ⟨rfl, a1, a2, a3, a4, am_wd_ok h2, am_wd_ok h3, Nat.eq_of_beq_eq_true h4, Nat.eq_of_beq_eq_true h5⟩
theorem am_Ss_at {a : Nat} (h : am_has am_Ss a = true) : (.initialized (mY a).cls : Cond) ∈ am_tbl ∧ ((mY a).cls ≠ "java/lang/invoke/MethodHandle" ∧ (mY a).cls ≠ "java/lang/invoke/VarHandle" ∧ (parseMethodDescriptor (mY a).desc).map (fun d => d.parameters.length) = some (mN a)) ∧ mL a ≤ 21 ∧ a < 173 ∧ (.static (mY a) : Cond) ∈ am_tbl ∧ mC a = 0 ∧ mS a = 0 := by
  obtain ⟨q, rfl, hq⟩ := am_has_ok am_Ss_ok h
  simp only [am_okS, Bool.and_eq_true] at hq
  obtain ⟨⟨⟨h1, h2⟩, h4⟩, h5⟩ := hq
  obtain ⟨a1, a2, a3, a4, -⟩ := am_okC_ok h1
  exact ⟨a1, a2, a3, a4, am_wd_ok h2, Nat.eq_of_beq_eq_true h4, Nat.eq_of_beq_eq_true h5⟩
theorem am_Xs_at {a : Nat} (h : am_has am_Xs a = true) : (.initialized (mY a).cls : Cond) ∈ am_tbl ∧ ((mY a).cls ≠ "java/lang/invoke/MethodHandle" ∧ (mY a).cls ≠ "java/lang/invoke/VarHandle" ∧ (parseMethodDescriptor (mY a).desc).map (fun d => d.parameters.length) = some (mN a)) ∧ mL a ≤ 21 ∧ a < 173 ∧ (.static (mY a) : Cond) ∈ am_tbl ∧ mC a = 0 ∧ mS a = 0 := by
  obtain ⟨q, rfl, hq⟩ := am_has_ok am_Xs_ok h
  simp only [am_okS, Bool.and_eq_true] at hq
  obtain ⟨⟨⟨h1, h2⟩, h4⟩, h5⟩ := hq
  obtain ⟨a1, a2, a3, a4, -⟩ := am_okC_ok h1
  exact ⟨a1, a2, a3, a4, am_wd_ok h2, Nat.eq_of_beq_eq_true h4, Nat.eq_of_beq_eq_true h5⟩
theorem am_Zs_at {a : Nat} (h : am_has am_Zs a = true) : (.initialized (mY a).cls : Cond) ∈ am_tbl ∧ ((mY a).cls ≠ "java/lang/invoke/MethodHandle" ∧ (mY a).cls ≠ "java/lang/invoke/VarHandle" ∧ (parseMethodDescriptor (mY a).desc).map (fun d => d.parameters.length) = some (mN a)) ∧ mL a ≤ 21 ∧ a < 173 ∧ (.static (mY a) : Cond) ∈ am_tbl := by
  obtain ⟨q, rfl, hq⟩ := am_has_ok am_Zs_ok h
  simp only [am_okZ, Bool.and_eq_true] at hq
  obtain ⟨h1, h2⟩ := hq
  obtain ⟨a1, a2, a3, a4, -⟩ := am_okC_ok h1
  exact ⟨a1, a2, a3, a4, am_wd_ok h2⟩
theorem am_Is_at {a : Nat} (h : am_has am_Is a = true) : (.initialized (mY a).cls : Cond) ∈ am_tbl ∧ ((mY a).cls ≠ "java/lang/invoke/MethodHandle" ∧ (mY a).cls ≠ "java/lang/invoke/VarHandle" ∧ (parseMethodDescriptor (mY a).desc).map (fun d => d.parameters.length) = some (mN a)) ∧ mL a ≤ 21 ∧ a < 173 ∧ (.instanceMethod (mY a) : Cond) ∈ am_tbl ∧ (mY a).name = "<init>" ∧ mR a = none := by
  obtain ⟨q, rfl, hq⟩ := am_has_ok am_Is_ok h
  simp only [am_okI, Bool.and_eq_true, decide_eq_true_eq] at hq
  obtain ⟨⟨⟨h1, h2⟩, h4⟩, h5⟩ := hq
  obtain ⟨a1, a2, a3, a4, -⟩ := am_okC_ok h1
  exact ⟨a1, a2, a3, a4, am_wd_ok h2, h4, h5⟩
theorem am_cf_ok {f d a : Nat} {av : List Value} {w : aW} {K : Option Value → aW → Prop} (h : am_cf f d a av w K) : ∃ d', d = d' + 1 ∧ am_Call d' a av w K := by
  unfold am_cf at h
  split at h
  · exact h.elim
  · rename_i d'
    refine ⟨d', rfl, ?_⟩
    split at h
    · refine am_Call.mono h ?_
      intro r w' hr
      split at hr
      · exact hr
      · exact hr.elim
    · refine am_Call.mono h ?_
      intro r w' hr
      split at hr
      · exact hr
      · exact hr.elim
theorem am_cx_ok {L : Nat} {xs : Nat → Int32} {d a : Nat} {av : List Value} {w : aW} {K : Option Value → aW → Prop} (h : am_cx L xs d a av w K) : ∃ d', d = d' + 1 ∧ am_CallX L xs d' a av w K := by
  unfold am_cx at h
  split at h
  · exact h.elim
  · rename_i d'
    refine ⟨d', rfl, ?_⟩
    intro l D ty base b t0 p e ha hc hk s m args below hf happ hP hK
    obtain ⟨n, o, h1, h2, h3, ⟨⟨r, w', q1, q2, q3⟩, q4⟩, h5⟩ := h l D ty base b t0 p e ha hc hk s m args below hf happ hP hK
    refine ⟨n, o, h1, h2, h3, ⟨⟨r, w', q1, ?_, q3⟩, q4⟩, h5⟩
    split at q2
    · exact q2
    · exact q2.elim
section CALL
variable {p : Program} {l : Launch} {e : Env} {R : Room} {s : State} {m : MethodId} {args : Array Value} {below : List Frame} {meth : Method} {c : Code} {H : Heap} {locs : List Loc} {Q : State → Prop} {pc : Nat} {ls : Array Slot}
variable {D : va_G} {ty : Nat → ClassId} {base b t0 d k : Nat} {w : aW} {u : Nat × Nat} {Post : Option Value → aW → Prop} {rest : List Value}
theorem am_call_go {cells slots mc ms n : Nat} {st0 rest : List Value} {a : Array Value} (hr : va_Run p l e R s m args below meth c H locs cells slots mc ms (F0 m pc ls st0) rest (am_Q D ty base b t0 n Post a) (am_A base)) (hS : va_S (am_A base) s.heap H locs)
    (kk : ∀ (r : Option Value) (w' : aW) (H1 : Heap) (locs1 : List Loc), Post r w' → w'.1 = n → va_P D vwCl (am_ws base ty w') H1 → va_S (am_A base) s.heap H1 locs1 → W p l e R s m args below meth c H1 locs1 (cells + mc) (slots + ms) Q (F0 m (pc + 3) ls ((r.map (am_cv base b t0)).toList ++ rest))) :
    W p l e R s m args below meth c H locs cells slots Q (F0 m pc ls st0) := by
  intro T hT X
  obtain ⟨v, st₀, t, T', L, h0, X', hL, e1, e2, ⟨⟨r, w', hv, hp, hn, hb⟩, hz, hk⟩, st⟩ := hr T hT X
  cases hv
  rw [h0] at hz hk
  obtain ⟨t2, a1, b1⟩ := kk r w' T'.heap (locs ++ L) hp hn (by rw [e1]; exact hb)
    ⟨Nat.le_trans hS.1 (by rw [e1]; exact hz), fun q h1 h2 => by rw [e1, hk q (Nat.lt_of_lt_of_le h1 hS.1) h2]; exact hS.2.1 q h1 h2, fun q hq => by
      rcases List.mem_append.mp hq with h | h
      · exact hS.2.2 q h
      · exact hL q h⟩ T' rfl X'
  exact ⟨t2, st t2 a1, b1⟩
theorem am_pre {av : List Value} (hE : am_En D ty base t0 s s.heap) (hS : va_S (am_A base) s.heap H locs) (hP : va_P D vwCl (am_ws base ty w) H) (hz : H.size = base + w.1) : ∀ U : State, U.heap = H → s.WarmedH U.vm → va_Pc (av.map (am_cv base b t0)) (fun U => am_En D ty base t0 U U.heap ∧ va_P D vwCl (am_ws base ty w) U.heap ∧ U.heap.size = base + w.1) (av.map (am_cv base b t0)).toArray U :=
  fun U hU hW => ⟨rfl, hE.call hS hU hW, by rw [hU]; exact hP, by rw [hU]; exact hz⟩
theorem am_callV (hF : am_Fx (d + 1) k p R s m args meth c) (hE : am_En D ty base t0 s s.heap) {a i index : Nat} {av : List Value} (hlen : av.length = mN a) (hi : i < w.1) {bc : Nat} (hs : w.2.1 i = (0, bc)) (hbc : bc < 5) (hcl : (am_cls bc).1 = (mY a).cls)
    (hV : am_has am_Vs a = true) (hlk : (.methodLink (mY k).cls index (mY a) : Cond) ∈ am_tbl) (hC : am_Call d a (.ref i :: av) w Post) (hdg : decode (mB k) pc = .ok (.invokevirtual index, 3)) (hcs : am_cs rest ≤ 8)
    (hP : va_P D vwCl (am_ws base ty w) H) (hS : va_S (am_A base) s.heap H locs) (hz : H.size = base + w.1) (hu1 : u.1 ≤ mC k) (hu2 : u.2 ≤ mS k) (hl : ls.size = mL k)
    (kk : ∀ (r : Option Value) (w' : aW) (H1 : Heap) (locs1 : List Loc), Post r w' → w'.1 = w.1 → va_P D vwCl (am_ws base ty w') H1 → va_S (am_A base) s.heap H1 locs1 → W p l e R s m args below meth c H1 locs1 u.1 u.2 Q (F0 m (pc + 3) ls ((r.map (am_cv base b t0)).toList ++ rest.map (am_cv base b t0)))) :
    W p l e R s m args below meth c H locs u.1 u.2 Q (F0 m pc ls ((av.reverse ++ .ref i :: rest).map (am_cv base b t0))) := by
  obtain ⟨hx, hb, hml, hown, hts, ⟨hr1, hr2, hr3, hr4⟩, -⟩ := hF
  obtain ⟨-, g1, g2, g3, g4, g5, g6, g7, g8⟩ := am_Vs_at hV
  have hM := hC l D ty base b t0
  have hG : GoodIn am_tbl (wsV (mY k).cls index (mY a).cls (mY a) (am_mw a)) := by
    intro q hq
    rcases List.mem_append.mp hq with hq | hq
    · simp only [List.mem_cons, List.not_mem_nil, or_false] at hq
      rcases hq with rfl | rfl | rfl | rfl
      · exact ⟨hlk, am_tbl_good _ hlk⟩
      · exact ⟨g5, am_tbl_good _ g5⟩
      · exact ⟨g6, am_tbl_good _ g6⟩
      · exact ⟨g1, am_tbl_good _ g1⟩
    · exact am_goodIn g4 q hq
  have hrecv := va_recv (a := base + i) hE.1 hP (am_clC bc hbc) (by rw [am_ws_get hi, am_cell_ob hs])
  rw [hcl] at hrecv
  refine am_call_go (va_runV (C := (mY a).cls) (As := av.map (am_cv base b t0)) (rest := rest.map (am_cv base b t0)) ⟨hx, hb, hml, hown, hts⟩ hM (cwV (mN a) hts hG rfl rfl rfl ⟨rfl, g2⟩ ⟨hr1, ?_⟩) ⟨am_blind, hrecv, am_pre (av := .ref i :: av) hE hS hP hz⟩ rfl (by rw [List.length_map]; exact hlen) hl ?_ (lv_room ?_) hdg ⟨?_, ?_⟩) hS ?_
  · show 8 + (mL a + 11) + 40 * d ≤ R.locals
    omega
  · simp [am_cv]
  · rw [am_cs_map]; exact hcs
  · rw [g7]; omega
  · rw [g8]; omega
  · intro r w' H1 locs1 q1 q2 q3 q4
    rw [g7, g8]
    rw [g7] at q2
    exact kk r w' H1 locs1 q1 q2 q3 q4
theorem am_callS (hF : am_Fx (d + 1) k p R s m args meth c) (hE : am_En D ty base t0 s s.heap) {a index : Nat} {av : List Value} (hlen : av.length = mN a)
    (hV : am_has am_Ss a = true) (hlk : (.methodLink (mY k).cls index (mY a) : Cond) ∈ am_tbl ∨ (.methodLinkNest (mY k).cls index (mY a) "FaceRounds" : Cond) ∈ am_nest) (hC : am_Call d a av w Post) (hdg : decode (mB k) pc = .ok (.invokestatic index, 3)) (hcs : am_cs rest ≤ 8)
    (hP : va_P D vwCl (am_ws base ty w) H) (hS : va_S (am_A base) s.heap H locs) (hz : H.size = base + w.1) (hu1 : u.1 ≤ mC k) (hu2 : u.2 ≤ mS k) (hl : ls.size = mL k)
    (kk : ∀ (r : Option Value) (w' : aW) (H1 : Heap) (locs1 : List Loc), Post r w' → w'.1 = w.1 → va_P D vwCl (am_ws base ty w') H1 → va_S (am_A base) s.heap H1 locs1 → W p l e R s m args below meth c H1 locs1 u.1 u.2 Q (F0 m (pc + 3) ls ((r.map (am_cv base b t0)).toList ++ rest.map (am_cv base b t0)))) :
    W p l e R s m args below meth c H locs u.1 u.2 Q (F0 m pc ls ((av.reverse ++ rest).map (am_cv base b t0))) := by
  obtain ⟨hx, hb, hml, hown, hts, ⟨hr1, hr2, hr3, hr4⟩, -⟩ := hF
  obtain ⟨g1, g2, g3, g4, g5, g7, g8⟩ := am_Ss_at hV
  have hM := hC l D ty base b t0
  have hroom : 8 + (mL a + 11) + (am_rm d a).locals ≤ R.locals := by
    show 8 + (mL a + 11) + 40 * d ≤ R.locals
    omega
  have hstk : (F0 m pc ls ((av.reverse ++ rest).map (am_cv base b t0))).stack = (av.map (am_cv base b t0)).reverse ++ rest.map (am_cv base b t0) := by simp
  have hrm8 : ((rest.map (am_cv base b t0)).map fun v => v.category).sum ≤ 8 := by rw [am_cs_map]; exact hcs
  have hcap : u.1 + mC a ≤ R.cells ∧ u.2 + mS a ≤ R.slots := by rw [g7, g8]; omega
  have kk' : ∀ (r : Option Value) (w' : aW) (H1 : Heap) (locs1 : List Loc), Post r w' → w'.1 = w.1 + mC a → va_P D vwCl (am_ws base ty w') H1 → va_S (am_A base) s.heap H1 locs1 → W p l e R s m args below meth c H1 locs1 (u.1 + mC a) (u.2 + mS a) Q (F0 m (pc + 3) ls ((r.map (am_cv base b t0)).toList ++ rest.map (am_cv base b t0))) := by
    intro r w' H1 locs1 q1 q2 q3 q4
    rw [g7, g8]
    rw [g7] at q2
    exact kk r w' H1 locs1 q1 q2 q3 q4
  rcases hlk with hlk | hlk
  · have hG : GoodIn am_tbl (va_wsS (mY k).cls index (mY a) (am_mw a)) := by
      intro q hq
      rcases List.mem_append.mp hq with hq | hq
      · simp only [List.mem_cons, List.not_mem_nil, or_false] at hq
        rcases hq with rfl | rfl | rfl
        · exact ⟨hlk, am_tbl_good _ hlk⟩
        · exact ⟨g5, am_tbl_good _ g5⟩
        · exact ⟨g1, am_tbl_good _ g1⟩
      · exact am_goodIn g4 q hq
    exact am_call_go (va_runS (As := av.map (am_cv base b t0)) (rest := rest.map (am_cv base b t0)) ⟨hx, hb, hml, hown, hts⟩ hM (va_cwS (mN a) hts hG rfl rfl rfl g2 ⟨hr1, hroom⟩) ⟨am_blind, am_pre (av := av) hE hS hP hz⟩ rfl (by rw [List.length_map]; exact hlen) hl hstk (lv_room hrm8) hdg hcap) hS kk'
  · exact am_call_go (va_runSN (As := av.map (am_cv base b t0)) (rest := rest.map (am_cv base b t0)) ⟨hx, hb, hml, hown, hts⟩ hM ⟨va_cnB (mN a) hts (am_goodIn g4) rfl rfl rfl (hE.2.2.2.1 _ hlk) (hts _ g1) g2 ⟨hr1, hroom⟩, hts _ g5, trivial⟩ ⟨am_blind, am_pre (av := av) hE hS hP hz⟩ rfl (by rw [List.length_map]; exact hlen) hl hstk (lv_room hrm8) hdg hcap) hS kk'
theorem am_callZ (hF : am_Fx (d + 1) k p R s m args meth c) (hE : am_En D ty base t0 s s.heap) {a index : Nat} {av : List Value} (hlen : av.length = mN a)
    (hV : am_has am_Zs a = true) (hlk : (.methodLink (mY k).cls index (mY a) : Cond) ∈ am_tbl) (hC : am_Call d a av w Post) (hdg : decode (mB k) pc = .ok (.invokestatic index, 3)) (hcs : am_cs rest ≤ 8)
    (hP : va_P D vwCl (am_ws base ty w) H) (hS : va_S (am_A base) s.heap H locs) (hz : H.size = base + w.1) (hu1 : u.1 + mC a ≤ mC k) (hu2 : u.2 + mS a ≤ mS k) (hl : ls.size = mL k)
    (kk : ∀ (r : Option Value) (w' : aW) (H1 : Heap) (locs1 : List Loc), Post r w' → w'.1 = w.1 + mC a → va_P D vwCl (am_ws base ty w') H1 → va_S (am_A base) s.heap H1 locs1 → W p l e R s m args below meth c H1 locs1 (u.1 + mC a) (u.2 + mS a) Q (F0 m (pc + 3) ls ((r.map (am_cv base b t0)).toList ++ rest.map (am_cv base b t0)))) :
    W p l e R s m args below meth c H locs u.1 u.2 Q (F0 m pc ls ((av.reverse ++ rest).map (am_cv base b t0))) := by
  obtain ⟨hx, hb, hml, hown, hts, ⟨hr1, hr2, hr3, hr4⟩, -⟩ := hF
  obtain ⟨g1, g2, g3, g4, g5⟩ := am_Zs_at hV
  have hM := hC l D ty base b t0
  have hroom : 8 + (mL a + 11) + (am_rm d a).locals ≤ R.locals := by
    show 8 + (mL a + 11) + 40 * d ≤ R.locals
    omega
  have hstk : (F0 m pc ls ((av.reverse ++ rest).map (am_cv base b t0))).stack = (av.map (am_cv base b t0)).reverse ++ rest.map (am_cv base b t0) := by simp
  have hrm8 : ((rest.map (am_cv base b t0)).map fun v => v.category).sum ≤ 8 := by rw [am_cs_map]; exact hcs
  have hcap : u.1 + mC a ≤ R.cells ∧ u.2 + mS a ≤ R.slots := by omega
  · have hG : GoodIn am_tbl (va_wsS (mY k).cls index (mY a) (am_mw a)) := by
      intro q hq
      rcases List.mem_append.mp hq with hq | hq
      · simp only [List.mem_cons, List.not_mem_nil, or_false] at hq
        rcases hq with rfl | rfl | rfl
        · exact ⟨hlk, am_tbl_good _ hlk⟩
        · exact ⟨g5, am_tbl_good _ g5⟩
        · exact ⟨g1, am_tbl_good _ g1⟩
      · exact am_goodIn g4 q hq
    exact am_call_go (va_runS (As := av.map (am_cv base b t0)) (rest := rest.map (am_cv base b t0)) ⟨hx, hb, hml, hown, hts⟩ hM (va_cwS (mN a) hts hG rfl rfl rfl g2 ⟨hr1, hroom⟩) ⟨am_blind, am_pre (av := av) hE hS hP hz⟩ rfl (by rw [List.length_map]; exact hlen) hl hstk (lv_room hrm8) hdg hcap) hS kk
theorem am_preX {av : List Value} {L : Nat} {xs : Nat → Int32} (hE : am_En D ty base t0 s s.heap) (hX : va_X b L xs s s.heap ∧ b < s.heap.size ∧ b < base) (hS : va_S (am_A base) s.heap H locs) (hP : va_P D vwCl (am_ws base ty w) H) (hz : H.size = base + w.1) : ∀ U : State, U.heap = H → s.WarmedH U.vm → va_Pc (av.map (am_cv base b t0)) (fun U => (am_En D ty base t0 U U.heap ∧ va_X b L xs U U.heap ∧ b < base) ∧ va_P D vwCl (am_ws base ty w) U.heap ∧ U.heap.size = base + w.1) (av.map (am_cv base b t0)).toArray U :=
  fun U hU hW => ⟨rfl, ⟨hE.call hS hU hW, va_X.moved hW.alike (by rw [hU]; exact hX.1.kept (hS.2.1 b hX.2.1 (by show ¬ base ≤ b; omega))), hX.2.2⟩, by rw [hU]; exact hP, by rw [hU]; exact hz⟩
theorem am_callX (hF : am_Fx (d + 1) k p R s m args meth c) (hE : am_En D ty base t0 s s.heap) {L : Nat} {xs : Nat → Int32} (hX : va_X b L xs s s.heap ∧ b < s.heap.size ∧ b < base) {a index : Nat} {av : List Value} (hlen : av.length = mN a)
    (hV : am_has am_Xs a = true) (hlk : (.methodLink (mY k).cls index (mY a) : Cond) ∈ am_tbl) (hC : am_CallX L xs d a av w Post) (hdg : decode (mB k) pc = .ok (.invokestatic index, 3)) (hcs : am_cs rest ≤ 8)
    (hP : va_P D vwCl (am_ws base ty w) H) (hS : va_S (am_A base) s.heap H locs) (hz : H.size = base + w.1) (hu1 : u.1 ≤ mC k) (hu2 : u.2 ≤ mS k) (hl : ls.size = mL k)
    (kk : ∀ (r : Option Value) (w' : aW) (H1 : Heap) (locs1 : List Loc), Post r w' → w'.1 = w.1 → va_P D vwCl (am_ws base ty w') H1 → va_S (am_A base) s.heap H1 locs1 → W p l e R s m args below meth c H1 locs1 u.1 u.2 Q (F0 m (pc + 3) ls ((r.map (am_cv base b t0)).toList ++ rest.map (am_cv base b t0)))) :
    W p l e R s m args below meth c H locs u.1 u.2 Q (F0 m pc ls ((av.reverse ++ rest).map (am_cv base b t0))) := by
  obtain ⟨hx, hb, hml, hown, hts, ⟨hr1, hr2, hr3, hr4⟩, -⟩ := hF
  obtain ⟨g1, g2, g3, g4, g5, g7, g8⟩ := am_Xs_at hV
  have hM := hC l D ty base b t0
  have hroom : 8 + (mL a + 11) + (am_rm d a).locals ≤ R.locals := by
    show 8 + (mL a + 11) + 40 * d ≤ R.locals
    omega
  have hstk : (F0 m pc ls ((av.reverse ++ rest).map (am_cv base b t0))).stack = (av.map (am_cv base b t0)).reverse ++ rest.map (am_cv base b t0) := by simp
  have hrm8 : ((rest.map (am_cv base b t0)).map fun v => v.category).sum ≤ 8 := by rw [am_cs_map]; exact hcs
  have hcap : u.1 + mC a ≤ R.cells ∧ u.2 + mS a ≤ R.slots := by rw [g7, g8]; omega
  have kk' : ∀ (r : Option Value) (w' : aW) (H1 : Heap) (locs1 : List Loc), Post r w' → w'.1 = w.1 + mC a → va_P D vwCl (am_ws base ty w') H1 → va_S (am_A base) s.heap H1 locs1 → W p l e R s m args below meth c H1 locs1 (u.1 + mC a) (u.2 + mS a) Q (F0 m (pc + 3) ls ((r.map (am_cv base b t0)).toList ++ rest.map (am_cv base b t0))) := by
    intro r w' H1 locs1 q1 q2 q3 q4
    rw [g7, g8]
    rw [g7] at q2
    exact kk r w' H1 locs1 q1 q2 q3 q4
  · have hG : GoodIn am_tbl (va_wsS (mY k).cls index (mY a) (am_mw a)) := by
      intro q hq
      rcases List.mem_append.mp hq with hq | hq
      · simp only [List.mem_cons, List.not_mem_nil, or_false] at hq
        rcases hq with rfl | rfl | rfl
        · exact ⟨hlk, am_tbl_good _ hlk⟩
        · exact ⟨g5, am_tbl_good _ g5⟩
        · exact ⟨g1, am_tbl_good _ g1⟩
      · exact am_goodIn g4 q hq
    exact am_call_go (va_runS (As := av.map (am_cv base b t0)) (rest := rest.map (am_cv base b t0)) ⟨hx, hb, hml, hown, hts⟩ hM (va_cwS (mN a) hts hG rfl rfl rfl g2 ⟨hr1, hroom⟩) ⟨am_blindX, am_preX (av := av) hE hX hS hP hz⟩ rfl (by rw [List.length_map]; exact hlen) hl hstk (lv_room hrm8) hdg hcap) hS kk'
theorem am_callI (hF : am_Fx (d + 1) k p R s m args meth c) (hE : am_En D ty base t0 s s.heap) {a i index : Nat} {av : List Value} (hlen : av.length = mN a)
    (hV : am_has am_Is a = true) (hlk : (.methodLink (mY k).cls index (mY a) : Cond) ∈ am_tbl ∨ (.methodLinkNest (mY k).cls index (mY a) "FaceRounds" : Cond) ∈ am_nest) (hC : am_Call d a (.ref i :: av) w Post) (hdg : decode (mB k) pc = .ok (.invokespecial index, 3)) (hcs : am_cs rest ≤ 8)
    (hP : va_P D vwCl (am_ws base ty w) H) (hS : va_S (am_A base) s.heap H locs) (hz : H.size = base + w.1) (hu1 : u.1 + mC a ≤ mC k) (hu2 : u.2 + mS a ≤ mS k) (hl : ls.size = mL k)
    (kk : ∀ (r : Option Value) (w' : aW) (H1 : Heap) (locs1 : List Loc), Post r w' → w'.1 = w.1 + mC a → va_P D vwCl (am_ws base ty w') H1 → va_S (am_A base) s.heap H1 locs1 → W p l e R s m args below meth c H1 locs1 (u.1 + mC a) (u.2 + mS a) Q (F0 m (pc + 3) ls ((r.map (am_cv base b t0)).toList ++ rest.map (am_cv base b t0)))) :
    W p l e R s m args below meth c H locs u.1 u.2 Q (F0 m pc ls ((av.reverse ++ .ref i :: rest).map (am_cv base b t0))) := by
  obtain ⟨hx, hb, hml, hown, hts, ⟨hr1, hr2, hr3, hr4⟩, -⟩ := hF
  obtain ⟨g1, g2, g3, g4, g5, g6, g7⟩ := am_Is_at hV
  have hM := hC l D ty base b t0
  have hroom : 8 + (mL a + 11) + (am_rm d a).locals ≤ R.locals := by
    show 8 + (mL a + 11) + 40 * d ≤ R.locals
    omega
  have hstk : (F0 m pc ls ((av.reverse ++ .ref i :: rest).map (am_cv base b t0))).stack = (av.map (am_cv base b t0)).reverse ++ .ref (base + i) :: rest.map (am_cv base b t0) := by simp [am_cv]
  have hrm8 : ((rest.map (am_cv base b t0)).map fun v => v.category).sum ≤ 8 := by rw [am_cs_map]; exact hcs
  have hcap : u.1 + mC a ≤ R.cells ∧ u.2 + mS a ≤ R.slots := by omega
  have hw : am_mw a = Cond.code (mY a) (mB a) (mL a) none :: am_tbl := by unfold am_mw; rw [g7]
  rcases hlk with hlk | hlk
  · exact am_call_go (va_runI (As := av.map (am_cv base b t0)) (rest := rest.map (am_cv base b t0)) ⟨hx, hb, hml, hown, hts⟩ hM (cwI (mN a) hts (am_goodIn g4) hw rfl rfl (hts _ g1) (hts _ hlk) (hts _ g5) g6 g2 ⟨hr1, hroom⟩) ⟨am_blind, am_pre (av := .ref i :: av) hE hS hP hz⟩ rfl (by rw [List.length_map]; exact hlen) hl hstk (lv_room hrm8) hdg hcap) hS kk
  · exact am_call_go (va_runIN (As := av.map (am_cv base b t0)) (rest := rest.map (am_cv base b t0)) ⟨hx, hb, hml, hown, hts⟩ hM ⟨va_cnB (mN a) hts (am_goodIn g4) hw rfl rfl (hE.2.2.2.1 _ hlk) (hts _ g1) g2 ⟨hr1, hroom⟩, g6, hts _ g5⟩ ⟨am_blind, am_pre (av := .ref i :: av) hE hS hP hz⟩ rfl (by rw [List.length_map]; exact hlen) hl hstk (lv_room hrm8) hdg hcap) hS kk
end CALL
