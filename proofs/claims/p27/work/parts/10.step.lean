set_option maxHeartbeats 4000000 in
set_option maxRecDepth 100000 in
/-- ONE STEP OF THE SMALL MACHINE IS THE MACHINE'S -/
theorem am_stp_ok {d k : Nat} {sx : Option (Nat × (Nat → Int32))} {Post : Option Value → aW → Prop} {x : aI} {lc : aL} {st : List Value} {w : aW} {u : Nat × Nat} {K : aK}
    (hck : am_ck k x = true) (h : am_stp d sx (mC k, mS k) x lc st w u K Post) (hK : ∀ pc' lc' st' w' u', K pc' lc' st' w' u' → am_At d k sx Post pc' lc' st' w' u') : am_At d k sx Post x.1 lc st w u := by
  intro p l e R s m args below meth c D ty base b t0 Q hF hE hX hbase hret H locs ls hsz hu1 hu2 hP hS hln hl
  have go : ∀ {pc' : Nat} {lc' : aL} {st' : List Value} {w' : aW} {u' : Nat × Nat} (H : Heap) (locs : List Loc) (ls : Array Slot), K pc' lc' st' w' u' → s.heap.size + u'.1 = base + w'.1 → u'.1 ≤ mC k → u'.2 ≤ mS k → va_P D vwCl (am_ws base ty w') H → va_S (am_A base) s.heap H locs → lc'.length = mL k → lv_has ls (mL k) (am_al (am_cv base b t0) 0 lc') →
      W p l e R s m args below meth c H locs u'.1 u'.2 Q (F0 m pc' ls (st'.map (am_cv base b t0))) := fun H locs ls hk => hK _ _ _ _ _ hk p l e R s m args below meth c D ty base b t0 Q hF hE hX hbase hret H locs ls
  have go1 : ∀ {pc' : Nat} {st' : List Value}, K pc' lc st' w u → W p l e R s m args below meth c H locs u.1 u.2 Q (F0 m pc' ls (st'.map (am_cv base b t0))) := fun hk => go H locs ls hk hsz hu1 hu2 hP hS hln hl
  have go2 : ∀ {pc' : Nat} {lc' : aL} {st' : List Value} (ls' : Array Slot), K pc' lc' st' w u → lc'.length = mL k → lv_has ls' (mL k) (am_al (am_cv base b t0) 0 lc') → W p l e R s m args below meth c H locs u.1 u.2 Q (F0 m pc' ls' (st'.map (am_cv base b t0))) := fun ls' hk => go H locs ls' hk hsz hu1 hu2 hP hS
  have go3 : ∀ {pc' : Nat} {st' : List Value} {w' : aW} (H1 : Heap) (locs1 : List Loc), K pc' lc st' w' u → w'.1 = w.1 → va_P D vwCl (am_ws base ty w') H1 → va_S (am_A base) s.heap H1 locs1 → W p l e R s m args below meth c H1 locs1 u.1 u.2 Q (F0 m pc' ls (st'.map (am_cv base b t0))) := fun H1 locs1 hk hw h1 h2 => go H1 locs1 ls hk (by rw [hw]; exact hsz) hu1 hu2 h1 h2 hln hl
  obtain ⟨hx, hb, hml, hown, hts, ⟨hr1, hr2, hr3, hr4⟩, hin⟩ := id hF
  obtain ⟨hKK, hZ, hT, hN, hAO⟩ := id hE
  obtain ⟨hdg, hc⟩ := am_ck_ok hck
  have hA : ∀ q, s.heap.size ≤ q → am_A base q := fun q hq => Nat.le_trans hbase hq
  have hD := am_ws_D base ty w
  have hHz : base + w.1 ≤ H.size := am_ws_size hP (Nat.le_trans hbase hS.1)
  obtain ⟨pc, ins, len, a, b', c', f, v, lg, sw⟩ := x
  cases ins with
  | iconst n => exact lv_iconst hx hb hdg (of_decide_eq_true hc) (go1 h)
  | bipush n => exact lv_bipush hx hb hdg (of_decide_eq_true hc) (go1 h)
  | sipush n => exact lv_sipush hx hb hdg (of_decide_eq_true hc) (go1 h)
  | ldc n => exact lv_ldc hx hb hown (hts _ (am_wd_ok hc)) hdg (go1 h)
  | ldc_w n => exact lv_ldcw hx hb hown (hts _ (am_wd_ok hc)) hdg (go1 h)
  | ldc2_w n => exact lv_ldc2 hx hb hown (hts _ (am_wd_ok hc)) hdg (go1 h)
  | iload_n j =>
    obtain ⟨y, hy, hk⟩ := am_gi_ok h
    exact lv_iload_n hx hb hdg rfl (am_rd hl hy) (go1 hk)
  | iload j =>
    obtain ⟨y, hy, hk⟩ := am_gi_ok h
    exact lv_iload hx hb hdg (am_rd hl hy) (go1 hk)
  | lload_n j =>
    obtain ⟨y, hy, hk⟩ := am_gl_ok h
    exact lv_lload_n hx hb hdg rfl (am_rd hl hy) (go1 hk)
  | lload j =>
    obtain ⟨y, hy, hk⟩ := am_gl_ok h
    exact lv_lload hx hb hdg (am_rd hl hy) (go1 hk)
  | aload_n j =>
    dsimp only [am_stp] at h
    obtain ⟨y, hy, hj, hk⟩ := am_ga_ok h
    rcases hj with ⟨q, rfl⟩ | ⟨q, rfl⟩
    · exact lv_aload_n hx hb hdg rfl (am_rd hl hy) (go1 hk)
    · cases q with
      | zero => exact lv_aload_n hx hb hdg rfl (am_rd hl hy) (go1 hk)
      | succ q => exact lv_aload_n hx hb hdg rfl (am_rd hl hy) (go1 hk)
  | aload j =>
    dsimp only [am_stp] at h
    obtain ⟨y, hy, hj, hk⟩ := am_ga_ok h
    rcases hj with ⟨q, rfl⟩ | ⟨q, rfl⟩
    · exact lv_aload hx hb hdg (am_rd hl hy) (go1 hk)
    · cases q with
      | zero => exact lv_aload hx hb hdg (am_rd hl hy) (go1 hk)
      | succ q => exact lv_aload hx hb hdg (am_rd hl hy) (go1 hk)
  | istore_n j =>
    dsimp only [am_stp] at h
    obtain ⟨y, r, hst, h0⟩ := am_i_ok h
    clear h
    have h := h0
    clear h0
    subst hst
    obtain ⟨hnl, hk⟩ := am_sv_ok h
    exact lv_istore_n hx hb hdg rfl hl (by simpa [am_ck3] using hc) rfl (fun ls' h' => go2 ls' hk (by rw [am_up_len]; exact hln) (am_wr1 (v := .int y) hnl h'))
  | istore j =>
    dsimp only [am_stp] at h
    obtain ⟨y, r, hst, h0⟩ := am_i_ok h
    clear h
    have h := h0
    clear h0
    subst hst
    obtain ⟨hnl, hk⟩ := am_sv_ok h
    exact lv_istore hx hb hdg hl (by simpa [am_ck3] using hc) rfl (fun ls' h' => go2 ls' hk (by rw [am_up_len]; exact hln) (am_wr1 (v := .int y) hnl h'))
  | lstore_n j =>
    dsimp only [am_stp] at h
    obtain ⟨y, r, hst, h0⟩ := am_l_ok h
    clear h
    have h := h0
    clear h0
    subst hst
    obtain ⟨hnl, hk⟩ := am_sl_ok h
    exact lv_lstore_n hx hb hdg rfl hl (by simpa [am_ck3] using hc) rfl (fun ls' h' => go2 ls' hk (by rw [am_up_len, am_up_len]; exact hln) (am_wr2 hnl h'))
  | lstore j =>
    dsimp only [am_stp] at h
    obtain ⟨y, r, hst, h0⟩ := am_l_ok h
    clear h
    have h := h0
    clear h0
    subst hst
    obtain ⟨hnl, hk⟩ := am_sl_ok h
    exact lv_lstore hx hb hdg hl (by simpa [am_ck3] using hc) rfl (fun ls' h' => go2 ls' hk (by rw [am_up_len, am_up_len]; exact hln) (am_wr2 hnl h'))
  | astore_n j =>
    dsimp only [am_stp] at h
    obtain ⟨y, r, hst, hj, h0⟩ := am_a_ok h
    clear h
    have h := h0
    clear h0
    subst hst
    obtain ⟨hnl, hk⟩ := am_sv_ok h
    rcases hj with ⟨q, rfl⟩ | ⟨q, rfl⟩
    · exact lv_astore_n hx hb hdg rfl hl (by simpa [am_ck3] using hc) rfl (fun ls' h' => go2 ls' hk (by rw [am_up_len]; exact hln) (am_wr1 (v := .ref q) hnl h'))
    · cases q with
      | zero => exact lv_astore_n hx hb hdg rfl hl (by simpa [am_ck3] using hc) rfl (fun ls' h' => go2 ls' hk (by rw [am_up_len]; exact hln) (am_wr1 (v := .retAddr 0) hnl h'))
      | succ q => exact lv_astore_n hx hb hdg rfl hl (by simpa [am_ck3] using hc) rfl (fun ls' h' => go2 ls' hk (by rw [am_up_len]; exact hln) (am_wr1 (v := .retAddr (q + 1)) hnl h'))
  | astore j =>
    dsimp only [am_stp] at h
    obtain ⟨y, r, hst, hj, h0⟩ := am_a_ok h
    clear h
    have h := h0
    clear h0
    subst hst
    obtain ⟨hnl, hk⟩ := am_sv_ok h
    rcases hj with ⟨q, rfl⟩ | ⟨q, rfl⟩
    · exact lv_astore hx hb hdg hl (by simpa [am_ck3] using hc) rfl (fun ls' h' => go2 ls' hk (by rw [am_up_len]; exact hln) (am_wr1 (v := .ref q) hnl h'))
    · cases q with
      | zero => exact lv_astore hx hb hdg hl (by simpa [am_ck3] using hc) rfl (fun ls' h' => go2 ls' hk (by rw [am_up_len]; exact hln) (am_wr1 (v := .retAddr 0) hnl h'))
      | succ q => exact lv_astore hx hb hdg hl (by simpa [am_ck3] using hc) rfl (fun ls' h' => go2 ls' hk (by rw [am_up_len]; exact hln) (am_wr1 (v := .retAddr (q + 1)) hnl h'))
  | iinc j n =>
    dsimp only [am_stp] at h
    obtain ⟨y, hy, h⟩ := am_gi_ok h
    obtain ⟨hnl, hk⟩ := am_sv_ok h
    obtain ⟨kk, hkk⟩ := List.getElem?_of_mem (am_al_of (f := am_cv base b t0) (i := 0) hy)
    rw [Nat.zero_add] at hkk
    simp only [am_ck3, Bool.and_eq_true, decide_eq_true_eq] at hc
    refine lv_iinc (x := y) (v := y + v) hx hb hdg hl (k := kk) hkk (by rw [hc.2]) (by simpa using hc.1) rfl (fun ls' h' => go2 ls' hk (by rw [am_up_len]; exact hln) (am_wr1 (v := .int (y + v)) hnl h'))
  | iadd =>
    obtain ⟨y, z, r, rfl, hk⟩ := am_ii_ok h
    exact lv_iadd hx hb hdg (go1 hk)
  | isub =>
    obtain ⟨y, z, r, rfl, hk⟩ := am_ii_ok h
    exact lv_isub hx hb hdg (go1 hk)
  | imul =>
    obtain ⟨y, z, r, rfl, hk⟩ := am_ii_ok h
    exact lv_imul hx hb hdg (go1 hk)
  | iand =>
    obtain ⟨y, z, r, rfl, hk⟩ := am_ii_ok h
    exact lv_iand hx hb hdg (go1 hk)
  | ior =>
    obtain ⟨y, z, r, rfl, hk⟩ := am_ii_ok h
    exact lv_ior hx hb hdg (go1 hk)
  | ixor =>
    obtain ⟨y, z, r, rfl, hk⟩ := am_ii_ok h
    exact lv_ixor hx hb hdg (go1 hk)
  | ishl =>
    obtain ⟨y, z, r, rfl, hk⟩ := am_ii_ok h
    exact lv_ishl hx hb hdg (go1 hk)
  | ishr =>
    obtain ⟨y, z, r, rfl, hk⟩ := am_ii_ok h
    exact lv_ishr hx hb hdg (go1 hk)
  | iushr =>
    obtain ⟨y, z, r, rfl, hk⟩ := am_ii_ok h
    exact lv_iushr hx hb hdg rfl (go1 hk)
  | idiv =>
    obtain ⟨y, z, r, rfl, hne, hk⟩ := am_ii_ok h
    exact lv_idiv hx hb hdg hne (go1 hk)
  | irem =>
    obtain ⟨y, z, r, rfl, hne, hk⟩ := am_ii_ok h
    exact lv_irem hx hb hdg hne (go1 hk)
  | ineg =>
    obtain ⟨y, r, rfl, hk⟩ := am_i_ok h
    exact lv_ineg hx hb hdg (go1 hk)
  | lmul =>
    obtain ⟨y, z, r, rfl, hk⟩ := am_ll_ok h
    exact lv_lmul hx hb hdg (go1 hk)
  | ldiv =>
    obtain ⟨y, z, r, rfl, hne, hk⟩ := am_ll_ok h
    exact lv_ldiv hx hb hdg hne (go1 hk)
  | i2l =>
    obtain ⟨y, r, rfl, hk⟩ := am_i_ok h
    exact lv_i2l hx hb hdg rfl (go1 hk)
  | l2i =>
    obtain ⟨y, r, rfl, hk⟩ := am_l_ok h
    exact lv_l2i hx hb hdg rfl (go1 hk)
  | i2c =>
    obtain ⟨y, r, rfl, hk⟩ := am_i_ok h
    exact lv_i2c hx hb hdg rfl (go1 hk)
  | dup =>
    dsimp only [am_stp] at h
    split at h
    · rename_i y r
      split at h
      · rename_i hy
        refine lv_dup hx hb hdg ?_ (go1 h)
        rw [am_cv_cat]
        cases y <;> first | rfl | cases hy
      · exact h.elim
    · exact h.elim
  | dup2 =>
    dsimp only [am_stp] at h
    split at h
    · rename_i y z r
      split at h
      · rename_i hy
        rw [Bool.and_eq_true] at hy
        refine lv_dup2_11 hx hb hdg ?_ ?_ (go1 h)
        · rw [am_cv_cat]
          have := hy.1
          cases y <;> first | rfl | cases this
        · rw [am_cv_cat]
          have := hy.2
          cases z <;> first | rfl | cases this
      · exact h.elim
    · exact h.elim
  | ifCond cc off =>
    obtain ⟨y, r, hst, h0⟩ := am_i_ok h
    clear h
    have h := h0
    clear h0
    subst hst
    have ht := of_decide_eq_true hc
    cases cc with
    | eq => exact lv_if_eq hx hb hdg ht (fun q => go1 (h.1 q)) (fun q => go1 (h.2 q))
    | ne => exact lv_if_ne hx hb hdg ht (fun q => go1 (h.1 q)) (fun q => go1 (h.2 q))
    | lt => exact lv_if_lt hx hb hdg ht (fun q => go1 (h.1 q)) (fun q => go1 (h.2 q))
    | ge => exact lv_if_ge hx hb hdg ht (fun q => go1 (h.1 q)) (fun q => go1 (h.2 q))
    | gt => exact lv_if_gt hx hb hdg ht (fun q => go1 (h.1 q)) (fun q => go1 (h.2 q))
    | le => exact lv_if_le hx hb hdg ht (fun q => go1 (h.1 q)) (fun q => go1 (h.2 q))
  | if_icmp cc off =>
    obtain ⟨y, z, r, hst, h0⟩ := am_ii_ok h
    clear h
    have h := h0
    clear h0
    subst hst
    have ht := of_decide_eq_true hc
    cases cc with
    | eq => exact lv_icmp_eq hx hb hdg ht (fun q => go1 (h.1 q)) (fun q => go1 (h.2 q))
    | ne => exact lv_icmp_ne hx hb hdg ht (fun q => go1 (h.1 q)) (fun q => go1 (h.2 q))
    | lt => exact lv_icmp_lt hx hb hdg ht (fun q => go1 (h.1 q)) (fun q => go1 (h.2 q))
    | ge => exact lv_icmp_ge hx hb hdg ht (fun q => go1 (h.1 q)) (fun q => go1 (h.2 q))
    | gt => exact lv_icmp_gt hx hb hdg ht (fun q => go1 (h.1 q)) (fun q => go1 (h.2 q))
    | le => exact lv_icmp_le hx hb hdg ht (fun q => go1 (h.1 q)) (fun q => go1 (h.2 q))
  | goto off => exact lv_goto hx hb hdg (of_decide_eq_true hc) (go1 h)
  | tableswitch dd lo hi offs =>
    obtain ⟨y, r, hst, h0⟩ := am_i_ok h
    clear h
    have h := h0
    clear h0
    subst hst
    simp only [am_ck3, Bool.and_eq_true, decide_eq_true_eq] at hc
    obtain ⟨⟨h1, h2⟩, h3⟩ := hc
    rcases am_tsw_ok sw 0 h3 h with ⟨i, t, o, a1, a2, a3, a4, a5⟩ | ⟨a1, a2⟩
    · rw [Nat.zero_add] at a2 a3
      exact lv_tableIn hx hb hdg (by omega) (by omega) (by rw [show (y.toInt - lo).toNat = i by omega]; exact a3) a4 (go1 a5)
    · refine lv_tableOut hx hb hdg ?_ h1 (go1 a2)
      by_cases hlo : y.toInt < lo
      · exact Or.inl hlo
      · right
        apply Int.not_le.mp
        intro hhi
        refine a1 (y.toInt - lo).toNat (by omega) ?_
        rw [Nat.zero_add]
        omega
  | lookupswitch dd ps =>
    obtain ⟨y, r, hst, h0⟩ := am_i_ok h
    clear h
    have h := h0
    clear h0
    subst hst
    simp only [am_ck3, Bool.and_eq_true, decide_eq_true_eq] at hc
    obtain ⟨⟨h1, h2⟩, h3⟩ := hc
    have h2' : (ps.toList.zip (ps.toList.drop 1)).all (fun (a, next) => a.1 < next.1) = true := h2
    rcases am_lsw_ok (dflt := dd) ps.toList sw h3 h with ⟨t, a1, a2⟩ | ⟨a1, a2⟩
    · exact lv_lookup hx hb hdg h2' rfl a1 (go1 a2)
    · exact lv_lookup hx hb hdg h2' rfl (by rw [a1]; exact h1) (go1 a2)
  | getfield n =>
    dsimp only [am_stp] at h
    split at h
    · rename_i i r
      obtain ⟨hi, hs, h⟩ := am_ob_ok h
      simp only [am_ck3, am_ckf, Bool.and_eq_true, decide_eq_true_eq] at hc
      obtain ⟨⟨⟨⟨h1, h2⟩, h3⟩, h4⟩, h5⟩ := hc
      have ha : a < 5 := by simpa using h1
      have hbN : b' < (am_cls a).2.2 := by simpa using h2
      have hg := am_fl_get (am_fv base w i) (am_fk a) 0 b' _ h5
      rw [Nat.zero_add] at hg
      refine va_get hx hb hts (am_inC a ha) hown hKK hP i (by rw [am_ws_get hi, am_cell_ob hs]) (am_clC a ha) b' hbN (hts _ (am_wd_ok h3)) (fun _ z => z) hg hdg ?_
      split at h
      · split at h
        · rename_i j hj
          have e : am_fv base w i b' (Nat.beq 1 1) = .ref (base + j) := by
            show va_rf ((w.2.2.2 i b').map (base + ·)) = _
            rw [hj]
            rfl
          rw [e]
          exact go1 h
        · exact h.elim
      · rename_i hf
        have e : am_fv base w i b' (Nat.beq f 1) = .int (w.2.2.1 i b') := by
          have : Nat.beq f 1 = false := by
            cases hbq : Nat.beq f 1 with
            | false => rfl
            | true => exact absurd (Nat.eq_of_beq_eq_true hbq) hf
          rw [this]
          rfl
        rw [e]
        exact go1 h
    · exact h.elim
  | putfield n =>
    simp only [am_ck3, am_ckf, Bool.and_eq_true, decide_eq_true_eq] at hc
    obtain ⟨⟨⟨⟨⟨h1, h2⟩, h3⟩, h4⟩, h5⟩, h6⟩ := hc
    have ha : a < 5 := by simpa using h1
    have hbN : b' < (am_cls a).2.2 := by simpa using h2
    have key : ∀ (i : Nat) (r : List Value) (ty0 : FieldType) (vv : Value), i < w.1 → w.2.1 i = (0, a) → parseFieldDescriptor ((am_cls a).2.1 b').2.2.1 = some ty0 → narrow ty0 vv = vv → fits ty0 vv = true →
        (∀ (H1 : Heap) (locs1 : List Loc), va_P D vwCl ((am_ws base ty w).set i (base + i, .inr (a, (am_fl (am_fv base w i) 0 (am_fk a)).set b' vv))) H1 → va_S (am_A base) s.heap H1 locs1 → W p l e R s m args below meth c H1 locs1 u.1 u.2 Q (F0 m (pc + 3) ls r)) →
        W p l e R s m args below meth c H locs u.1 u.2 Q (F0 m pc ls (vv :: .ref (base + i) :: r)) := by
      intro i r ty0 vv hi hs hp hn hf kk
      have hlen : b' < (am_fl (am_fv base w i) 0 (am_fk a)).length := by
        rw [am_fl_len]
        exact (List.getElem?_eq_some_iff.mp h5).1
      cases hfin : ((am_cls a).2.1 b').2.2.2 with
      | false => exact va_put hx hb hts (am_inC a ha) (am_tyC a) (am_tyC_ok a ha) (am_nmC a ha) hown hKK hP hD hS i (by rw [am_ws_get hi, am_cell_ob hs]) (am_clC a ha) b' hbN (hts _ (am_wd_ok h3)) (fun _ z => z) hfin hp hn hf hlen hdg (fun H1 locs1 q1 _ q3 => kk H1 locs1 q1 q3)
      | true =>
        simp only [am_fin, hfin, Bool.not_true, Bool.false_or, Bool.and_eq_true, decide_eq_true_eq] at h6
        exact va_putF hx hb hts (am_inC a ha) (am_tyC a) (am_tyC_ok a ha) (am_nmC a ha) hown hKK hP hD hS i (by rw [am_ws_get hi, am_cell_ob hs]) (am_clC a ha) b' hbN (hts _ (am_wd_ok h3)) (fun _ z => z) hfin (hin h6.1) h6.2 hp hn hf hlen hdg (fun H1 locs1 q1 _ q3 => kk H1 locs1 q1 q3)
    dsimp only [am_stp] at h
    split at h
    · rename_i y i r
      obtain ⟨hi, hs, h⟩ := am_ob_ok h
      unfold am_fty at h4
      split at h4
      · rename_i hp
        exact key i _ .int (.int y) hi hs hp rfl rfl (fun H1 locs1 q1 q3 => go3 H1 locs1 h rfl (by rw [← am_putC hi hs h5]; exact q1) q3)
      · rename_i hf _; cases hf
      · rename_i hf _; cases hf
      · rename_i hf _; cases hf
      · cases h4
    · rename_i j i r
      obtain ⟨hi, hs, h⟩ := am_ob_ok h
      unfold am_fty at h4
      split at h4
      · rename_i hf _; cases hf
      · rename_i C _ hp
        exact key i _ (.object C) (.ref (base + j)) hi hs hp rfl rfl (fun H1 locs1 q1 q3 => go3 H1 locs1 h rfl (by rw [← am_putF hi hs h5]; exact q1) q3)
      · rename_i C _ hp
        exact key i _ (.array C) (.ref (base + j)) hi hs hp rfl rfl (fun H1 locs1 q1 q3 => go3 H1 locs1 h rfl (by rw [← am_putF hi hs h5]; exact q1) q3)
      · rename_i hf _; cases hf
      · cases h4
    · rename_i y i r
      obtain ⟨hi, hs, hy, h⟩ := am_ob_ok h
      unfold am_fty at h4
      split at h4
      · rename_i hf _; cases hf
      · rename_i hf _; cases hf
      · rename_i hf _; cases hf
      · rename_i hp
        exact key i _ .boolean (.int y) hi hs hp (by rcases hy with rfl | rfl <;> rfl) (by rcases hy with rfl | rfl <;> rfl) (fun H1 locs1 q1 q3 => go3 H1 locs1 h rfl (by rw [← am_putC hi hs h5]; exact q1) q3)
      · cases h4
    · exact h.elim
  | getstatic n => exact va_gets hx hb hZ hS hown (hts _ (am_wd_ok hc)) (fun _ z => z) hdg (go1 h)
  | arraylength =>
    dsimp only [am_stp] at h
    split at h
    · rename_i i r
      obtain ⟨t, n, hi, hs, ht, h⟩ := am_alen_ok h
      by_cases h3 : t = 3
      · subst h3
        exact va_alen hx hb hKK hP i 3 (x := (n, .inr (.inr (.inr (.inr (fun j => (w.2.2.2 i j).map (base + ·))))))) (by rw [am_ws_get hi, am_cell_aq hs]) rfl rfl hdg (go1 h)
      · have htt : (am_tys ty)[t]? = some (ty t, am_at t) := by
          have : t = 0 ∨ t = 1 ∨ t = 2 := by omega
          rcases this with e | e | e <;> subst e <;> rfl
        exact va_alen hx hb hKK hP i t (x := (n, .inl (w.2.2.1 i))) (by rw [am_ws_get hi, am_cell_ar hs h3]) htt rfl hdg (go1 h)
    · rename_i r
      cases sx with
      | none => exact h.elim
      | some q =>
        obtain ⟨g1, g2, g3⟩ := hX
        exact va_slen hx hb g1 g2 (Nat.not_le.mpr g3) hS hdg (go1 h)
    · exact h.elim
  | iaload =>
    dsimp only [am_stp] at h
    split at h
    · rename_i i q r
      obtain ⟨n, hi, hs, hv, h⟩ := am_ar_ok h
      exact va_iald hx hb hKK hP q 1 (by rw [am_ws_get hi, am_cell_ar hs (by decide)]) rfl hv hdg (go1 h)
    · rename_i i r
      cases sx with
      | none => exact h.elim
      | some q =>
        obtain ⟨g1, g2, g3⟩ := hX
        exact va_sld hx hb g1 g2 (Nat.not_le.mpr g3) hS h.1 hdg (go1 h.2)
    · rename_i i r
      exact va_ti hx hb hT hS h.1 rfl hdg (go1 h.2)
    · exact h.elim
  | caload =>
    dsimp only [am_stp] at h
    split at h
    · rename_i i q r
      obtain ⟨n, hi, hs, hv, h⟩ := am_ar_ok h
      exact va_cald hx hb hKK hP q 0 (by rw [am_ws_get hi, am_cell_ar hs (by decide)]) rfl hv hdg (go1 h)
    · exact h.elim
  | baload =>
    dsimp only [am_stp] at h
    split at h
    · rename_i i q r
      obtain ⟨n, hi, hs, hv, h⟩ := am_ar_ok h
      exact va_zald hx hb hKK hP q 2 (by rw [am_ws_get hi, am_cell_ar hs (by decide)]) rfl hv hdg (go1 h)
    · exact h.elim
  | aaload =>
    dsimp only [am_stp] at h
    split at h
    · rename_i i q r
      obtain ⟨n, hi, hs, hv, j, hj, h⟩ := am_ar_ok h
      refine va_aldq hx hb hKK hP q 3 (by rw [am_ws_get hi, am_cell_aq hs]) rfl hv hdg ?_
      have e : va_rf ((w.2.2.2 q i.toNatClampNeg).map (base + ·)) = .ref (base + j) := by
        rw [hj]
        rfl
      rw [e]
      exact go1 h
    · exact h.elim
  | iastore =>
    dsimp only [am_stp] at h
    split at h
    · rename_i y i q r
      obtain ⟨n, hi, hs, hv, h⟩ := am_ar_ok h
      exact va_iast hx hb hKK hP hD hS q 1 (by rw [am_ws_get hi, am_cell_ar hs (by decide)]) rfl hv hdg (fun H1 locs1 q1 _ q3 => go3 H1 locs1 h rfl (by rw [← am_putA hi hs (by decide)]; exact q1) q3)
    · exact h.elim
  | castore =>
    dsimp only [am_stp] at h
    split at h
    · rename_i y i q r
      obtain ⟨n, hi, hs, hv, h⟩ := am_ar_ok h
      exact va_cast hx hb hKK hP hD hS q 0 (by rw [am_ws_get hi, am_cell_ar hs (by decide)]) rfl hv hdg (fun H1 locs1 q1 _ q3 => go3 H1 locs1 h rfl (by rw [← am_putA hi hs (by decide)]; exact q1) q3)
    · exact h.elim
  | bastore =>
    dsimp only [am_stp] at h
    split at h
    · rename_i y i q r
      obtain ⟨n, hi, hs, hv, h⟩ := am_ar_ok h
      exact va_zast hx hb hKK hP hD hS q 2 (by rw [am_ws_get hi, am_cell_ar hs (by decide)]) rfl hv hdg (fun H1 locs1 q1 _ q3 => go3 H1 locs1 h rfl (by rw [← am_putA hi hs (by decide)]; exact q1) q3)
    · exact h.elim
  | aastore =>
    dsimp only [am_stp] at h
    split at h
    · rename_i j i q r
      obtain ⟨n, hi, hs, hv, h⟩ := am_ar_ok h
      obtain ⟨hj, hjs, h⟩ := am_ob_ok h
      exact va_astq hx hb hKK hP hD hS q 3 j 3 (r := am_cls 3) (by rw [am_ws_get hi, am_cell_aq hs]) rfl (by rw [am_ws_get hj, am_cell_ob hjs]) rfl hv hdg (fun H1 locs1 q1 _ q3 => go3 H1 locs1 h rfl (by rw [← am_putQ hi hs]; exact q1) q3)
    · exact h.elim
  | new n =>
    obtain ⟨h1, h2, h⟩ := am_room_ok h
    simp only [am_ck3, Bool.and_eq_true] at hc
    obtain ⟨⟨⟨⟨c1, c2⟩, c3⟩, c4⟩, c5⟩ := hc
    have ha : a < 5 := by simpa using c1
    have hf := Nat.eq_of_beq_eq_true c3
    subst hf
    refine va_new hx hb hts (am_inC a ha) (am_tyC a) (am_tyC_ok a ha) hown (hts _ (am_wd_ok c2)) (hts _ (am_wd_ok c4)) (hts _ (am_wd_ok c5)) hKK hP hD hS hA (am_clC a ha) (fs := am_fl (am_fv base (am_wN w (0, a)) w.1) 0 (am_fk a)) ?_ (by rw [hr3]; exact h1) (by rw [hr4]; exact h2) hdg (fun q H1 q1 q2 q3 => ?_)
    · intro j hj
      obtain ⟨e1, e2⟩ := am_dfl a ha j hj
      rw [e2]
      have hg := am_fl_get (am_fv base (am_wN w (0, a)) w.1) (am_fk a) 0 j _ e1
      rw [Nat.zero_add] at hg
      show _ = (am_fl (am_fv base (am_wN w (0, a)) w.1) 0 (am_fk a)).getD j .null
      rw [List.getD_eq_getElem?_getD, hg]
      have hC : (am_wN w (0, a)).2.2.1 w.1 j = 0 := by simp [am_wN, am_uR]
      have hQ : (am_wN w (0, a)).2.2.2 w.1 j = none := by simp [am_wN, am_uR]
      cases am_tyC a j <;> simp [am_fv, hC, hQ, va_rf]
    · refine am_size fun hz => ?_
      have hq := am_new_at q2 q1 (by omega)
      subst hq
      refine go (u' := (u.1 + 1, u.2 + (am_cls a).2.2)) H1 locs ls h (by show s.heap.size + (u.1 + 1) = base + (w.1 + 1); omega) h1 h2 ?_ q3 hln hl
      rw [← am_ws_push (w := w) (w' := am_wN w (0, a)) rfl (by rw [am_cell_ob (show (am_wN w (0, a)).2.1 w.1 = (0, a) by simp [am_wN, am_uS])]) (fun j hj => am_cell_congr (am_uS_ne (by omega)) (am_uR_ne (by omega)) (am_uR_ne (by omega)))]
      exact q1
  | newarray t =>
    obtain ⟨y, r, hst, hy, h0⟩ := am_i_ok h
    clear h
    have h := h0
    clear h0
    subst hst
    obtain ⟨h1, h2, h⟩ := am_room_ok h
    subst hy
    simp only [am_ck3, am_num, Bool.and_eq_true, decide_eq_true_eq] at hc
    obtain ⟨⟨⟨c1, c2⟩, c3⟩, ⟨c4, c5⟩, c6⟩ := hc
    have hb3 : b' < 3 := by simpa using c3
    have hbt := Nat.eq_of_beq_eq_true c2
    have key : ∀ (t' : FieldType), newarray.typeOf t = t' → (am_tys ty)[b']? = some (ty b', t') → defaultValue t' = .int 0 → (∀ cA, va_RA s cA t' → va_RA s (ty b') t' → cA = ty b') →
        W p l e R s m args below meth c H locs u.1 u.2 Q (F0 m pc ls ((.int y :: r).map (am_cv base b t0))) := by
      intro t' ht' htt hdv huq
      refine va_newa hx hb (hts _ (am_wd_ok c1)) ht' hKK hP hD hS hA (N' := a) (a0 := (a, .inl (fun _ => 0))) (fun cA => by rw [vp_cell_i, hdv]) c4 c5 (by rw [← ht']; exact Nat.le_of_ble_eq_true c6) (by rw [hr3]; exact h1) (by rw [hr4]; exact h2) hdg (fun q cA H1 q0 q1 q2 q3 => ?_)
      have hcA : cA = ty b' := huq cA (q0.2 (am_tys ty).length (cA, t') (by simp)).2 (hKK.2 b' _ htt).2
      subst hcA
      refine am_size fun hz => ?_
      have hq := am_new_at q2 q1 (by omega)
      subst hq
      refine go (u' := (u.1 + 1, u.2 + a)) H1 locs ls h (by show s.heap.size + (u.1 + 1) = base + (w.1 + 1); omega) h1 h2 ?_ q3 hln hl
      rw [← am_ws_push (w := w) (w' := am_wN w (b' + 1, a)) (e := .inl (ty b', a, .inl (fun _ => 0))) rfl ?_ (fun j hj => am_cell_congr (am_uS_ne (by omega)) (am_uR_ne (by omega)) (am_uR_ne (by omega)))]
      · exact q1
      · rw [am_cell_ar (show (am_wN w (b' + 1, a)).2.1 w.1 = (b' + 1, a) by simp [am_wN, am_uS]) (by omega)]
        have : (am_wN w (b' + 1, a)).2.2.1 w.1 = fun _ => 0 := by simp [am_wN, am_uR]
        rw [this]
    cases t with
    | char => cases hbt; exact key .char rfl rfl rfl (fun cA q1 q2 => Option.some.inj (q1.symm.trans q2))
    | int => cases hbt; exact key .int rfl rfl rfl (fun cA q1 q2 => Option.some.inj (q1.symm.trans q2))
    | boolean => cases hbt; exact key .boolean rfl rfl rfl (fun cA q1 q2 => Option.some.inj (q1.symm.trans q2))
    | _ => cases hbt; exact absurd hb3 (by decide)
  | anewarray n =>
    obtain ⟨y, r, hst, hy, h0⟩ := am_i_ok h
    clear h
    have h := h0
    clear h0
    subst hst
    obtain ⟨h1, h2, h⟩ := am_room_ok h
    subst hy
    simp only [am_ck3, am_num, Bool.and_eq_true, decide_eq_true_eq] at hc
    obtain ⟨⟨c1, c2⟩, ⟨c4, c5⟩, c6⟩ := hc
    refine va_newq hx hb hown (hts _ (am_wd_ok c1)) hAO hKK hP hD hS hA c4 c5 (Nat.le_of_ble_eq_true c6) (by rw [hr3]; exact h1) (by rw [hr4]; exact h2) hdg (fun q cA H1 q0 q1 q2 q3 => ?_)
    have hcA : cA = ty 3 := by
      obtain ⟨_, _, _, _, _, e1⟩ := (q0.2 (am_tys ty).length (cA, .object "FaceRounds$State") (by simp)).2
      obtain ⟨_, _, _, _, _, e2⟩ := (hKK.2 3 (ty 3, .object "FaceRounds$State") rfl).2
      exact Option.some.inj (e1.symm.trans e2)
    subst hcA
    refine am_size fun hz => ?_
    have hq := am_new_at q2 q1 (by omega)
    subst hq
    refine go (u' := (u.1 + 1, u.2 + a)) H1 locs ls h (by show s.heap.size + (u.1 + 1) = base + (w.1 + 1); omega) h1 h2 ?_ q3 hln hl
    rw [← am_ws_push (w := w) (w' := am_wN w (4, a)) (e := .inl (ty 3, a, .inr (.inr (.inr (.inr (fun _ => none)))))) rfl ?_ (fun j hj => am_cell_congr (am_uS_ne (by omega)) (am_uR_ne (by omega)) (am_uR_ne (by omega)))]
    · exact q1
    · rw [am_cell_aq (show (am_wN w (4, a)).2.1 w.1 = (4, a) by simp [am_wN, am_uS])]
      have : (fun j => ((am_wN w (4, a)).2.2.2 w.1 j).map (base + ·)) = fun _ => none := by
        funext j
        simp [am_wN, am_uR]
      rw [this]
  | invokevirtual n =>
    obtain ⟨av, r, hlen, hst, h0⟩ := am_pop_ok h
    clear h
    have h := h0
    clear h0
    subst hst
    rw [List.append_nil] at h
    split at h
    · rename_i i r
      obtain ⟨hi, hs, h⟩ := am_ob_ok h
      obtain ⟨hcs, h⟩ := am_cs8_ok h
      obtain ⟨d', rfl, hC⟩ := am_cf_ok h
      simp only [am_ck3, Bool.and_eq_true, decide_eq_true_eq] at hc
      obtain ⟨⟨⟨⟨c1, c2⟩, c3⟩, c4⟩, -⟩ := hc
      refine am_size fun hz => ?_
      exact am_callV hF hE hlen hi hs (by simpa using c3) c4 c1 (am_wd_ok c2) hC hdg hcs hP hS (by omega) hu1 hu2 hl.1 (fun r' w' H1 locs1 q1 q2 q3 q4 => by
        have := go3 (st' := r'.toList ++ r) H1 locs1 q1 q2 q3 q4
        cases r' <;> exact this)
    · exact h.elim
  | invokestatic n =>
    dsimp only [am_stp] at h
    split at h
    · split at h
      · rename_i d' n' dp q1 sp q0 r
        obtain ⟨t, n0, n1, hq0, hq1, hs0, hs1, h⟩ := am_cpa_ok h
        obtain ⟨hcs, g1, g2, g3, g4, g5, h⟩ := am_cs8_ok h
        simp only [am_ck3, Bool.and_eq_true] at hc
        obtain ⟨c1, -⟩ := hc
        have hnn := am_isC_ok
        simp only [am_isC, Bool.and_eq_true] at hnn
        obtain ⟨⟨w1, w2⟩, w3⟩ := hnn
        have hlo : ((r.map (am_cv base b t0)).map fun v => v.category).sum + (nativeFrameWords "java/lang/System" "arraycopy" 5 + 11) ≤ R.locals := by
          rw [am_cs_map]
          have : nativeFrameWords "java/lang/System" "arraycopy" 5 = 7 := by decide
          omega
        have key : ∀ (ty' : FieldType), t ≠ 3 → (am_tys ty)[t]? = some (ty t, ty') → refKind ty' = false → (∀ i, i < n'.toNatClampNeg → fits ty' (.int (w.2.2.1 q0 (sp.toNatClampNeg + i))) = true) → K (pc + 3) lc r (am_wC w (am_uR w.2.2.1 q1 (va_cpy (w.2.2.1 q0) (w.2.2.1 q1) sp.toNatClampNeg dp.toNatClampNeg n'.toNatClampNeg))) u →
            W p l e R s m args below meth c H locs u.1 u.2 Q (F0 m pc ls ((.int n' :: .int dp :: .ref q1 :: .int sp :: .ref q0 :: r).map (am_cv base b t0))) := by
          intro ty' h3 htt hrk hfit hk
          exact va_copyi hx hb (hml.trans hl.1.symm) hown (hts _ (am_wd_ok c1)) (hts _ (am_wd_ok w1)) (hts _ (am_wd_ok w2)) (hts _ (am_wd_ok w3)) hKK hP hD hS q0 q1 t t (by rw [am_ws_get hq0, am_cell_ar hs0 h3]) (by rw [am_ws_get hq1, am_cell_ar hs1 h3]) htt htt hrk g1 g2 g3 g4 g5 hfit (by omega) hlo hdg
            (fun H1 locs1 z1 _ z3 => go3 H1 locs1 hk rfl (by rw [← am_putR hq1 hs1 h3]; exact z1) z3)
        unfold am_cpf at h
        split at h
        · exact key .int (by decide) rfl rfl (fun _ _ => rfl) h
        · exact key .boolean (by decide) rfl rfl (fun i hi => by rcases h.1 i hi with e | e <;> rw [e] <;> rfl) h.2
        · exact h.elim
      · exact h.elim
    · split at h
      · rename_i d' z y r
        obtain ⟨hcs, h⟩ := am_cs8_ok h
        have hmm := am_mm
        simp only [Bool.and_eq_true] at hmm
        obtain ⟨⟨w1, w2⟩, w3⟩ := hmm
        have hlo : ((r.map (am_cv base b t0)).map fun v => v.category).sum + 13 ≤ R.locals := by
          rw [am_cs_map]
          omega
        exact va_mmax hx hb (hml.trans hl.1.symm) hown (hts _ (am_wd_ok hc)) (hts _ (am_wd_ok w1)) (hts _ (am_wd_ok w3)) (hts _ (List.mem_filter.mpr ⟨List.mem_of_getElem? am_mx, rfl⟩)) (by omega) hlo (by omega) (by omega) hdg (go1 h)
      · exact h.elim
    · split at h
      · rename_i d' y r
        obtain ⟨hcs, h⟩ := am_cs8_ok h
        have hmm := am_mm
        simp only [Bool.and_eq_true] at hmm
        obtain ⟨⟨w1, w2⟩, w3⟩ := hmm
        have hlo : ((r.map (am_cv base b t0)).map fun v => v.category).sum + 13 ≤ R.locals := by
          rw [am_cs_map]
          omega
        exact va_mabs hx hb (hml.trans hl.1.symm) hown (hts _ (am_wd_ok hc)) (hts _ (am_wd_ok w2)) (hts _ (am_wd_ok w3)) (hts _ (List.mem_filter.mpr ⟨List.mem_of_getElem? am_ma, rfl⟩)) (by omega) hlo (by omega) (by omega) hdg (go1 h)
      · exact h.elim
    · obtain ⟨av, r, hlen, hst, h0⟩ := am_pop_ok h
      clear h
      have h := h0
      clear h0
      subst hst
      rw [List.append_nil] at h
      obtain ⟨hcs, h⟩ := am_cs8_ok h
      obtain ⟨h1, h2', h⟩ := am_room_ok h
      obtain ⟨d', rfl, hC⟩ := am_cf_ok h
      simp only [am_ck3, Bool.and_eq_true] at hc
      refine am_size fun hz => ?_
      exact am_callZ hF hE hlen hc.1 (am_wd_ok hc.2) hC hdg hcs hP hS (by omega) h1 h2' hl.1 (fun r' w' H1 locs1 q1 q2 q3 q4 => by
        have := go (u' := (u.1 + mC a, u.2 + mS a)) (st' := r'.toList ++ r) H1 locs1 ls q1 (by show s.heap.size + (u.1 + mC a) = base + w'.1; omega) h1 h2' q3 q4 hln hl
        cases r' <;> exact this)
    · split at h
      · obtain ⟨av, r, hlen, hst, h0⟩ := am_pop_ok h
        clear h
        have h := h0
        clear h0
        subst hst
        rw [List.append_nil] at h
        obtain ⟨hcs, h⟩ := am_cs8_ok h
        obtain ⟨d', rfl, hC⟩ := am_cx_ok h
        simp only [am_ck3, Bool.and_eq_true] at hc
        refine am_size fun hz => ?_
        exact am_callX hF hE hX hlen hc.1 (am_wd_ok hc.2) hC hdg hcs hP hS (by omega) hu1 hu2 hl.1 (fun r' w' H1 locs1 q1 q2 q3 q4 => by
          have := go3 (st' := r'.toList ++ r) H1 locs1 q1 q2 q3 q4
          cases r' <;> exact this)
      · exact h.elim
    · rename_i h2 h3 h4 h5 h6
      obtain ⟨av, r, hlen, hst, h0⟩ := am_pop_ok h
      clear h
      have h := h0
      clear h0
      subst hst
      rw [List.append_nil] at h
      obtain ⟨hcs, h⟩ := am_cs8_ok h
      obtain ⟨d', rfl, hC⟩ := am_cf_ok h
      have hlk : am_has am_Ss a = true ∧ ((.methodLink (mY k).cls n (mY a) : Cond) ∈ am_tbl ∨ (.methodLinkNest (mY k).cls n (mY a) "FaceRounds" : Cond) ∈ am_nest) := by
        dsimp only [am_ck3] at hc
        split at hc
        · exact absurd rfl h2
        · exact absurd rfl h3
        · exact absurd rfl h4
        · simp only [Bool.and_eq_true, decide_eq_true_eq] at hc
          exact ⟨hc.1, Or.inr (List.mem_of_getElem? hc.2)⟩
        · exact absurd rfl h5
        · exact absurd rfl h6
        · simp only [Bool.and_eq_true] at hc
          exact ⟨hc.1, Or.inl (am_wd_ok hc.2)⟩
      refine am_size fun hz => ?_
      exact am_callS hF hE hlen hlk.1 hlk.2 hC hdg hcs hP hS (by omega) hu1 hu2 hl.1 (fun r' w' H1 locs1 q1 q2 q3 q4 => by
        have := go3 (st' := r'.toList ++ r) H1 locs1 q1 q2 q3 q4
        cases r' <;> exact this)
  | invokespecial n =>
    dsimp only [am_stp] at h
    split at h
    · split at h
      · rename_i d' i r
        obtain ⟨hcs, h⟩ := am_cs8_ok h
        simp only [am_ck3, Bool.and_eq_true] at hc
        obtain ⟨c1, c2⟩ := hc
        simp only [am_isO, Bool.and_eq_true] at c2
        refine W.objInit hx hb hown (hts _ (am_wd_ok c1)) (hts _ (am_wd_ok c2.1)) (hts _ (List.mem_filter.mpr ⟨List.mem_of_getElem? am_oc, rfl⟩)) rfl (by rw [hml]; exact hl.1) rfl hdg (by omega) ?_ (go1 h)
        show 2 * 0 + ((r.map (am_cv base b t0)).map fun v => v.category).sum + 12 ≤ R.locals
        rw [am_cs_map]
        omega
      · exact h.elim
    · rename_i h2
      obtain ⟨av, r, hlen, hst, h0⟩ := am_pop_ok h
      clear h
      have h := h0
      clear h0
      subst hst
      rw [List.append_nil] at h
      split at h
      · rename_i i r
        obtain ⟨hcs, h⟩ := am_cs8_ok h
        obtain ⟨h1, h2', h⟩ := am_room_ok h
        obtain ⟨d', rfl, hC⟩ := am_cf_ok h
        have hlk : am_has am_Is a = true ∧ ((.methodLink (mY k).cls n (mY a) : Cond) ∈ am_tbl ∨ (.methodLinkNest (mY k).cls n (mY a) "FaceRounds" : Cond) ∈ am_nest) := by
          dsimp only [am_ck3] at hc
          split at hc
          · exact absurd rfl h2
          · simp only [Bool.and_eq_true, decide_eq_true_eq] at hc
            exact ⟨hc.1, Or.inr (List.mem_of_getElem? hc.2)⟩
          · simp only [Bool.and_eq_true] at hc
            exact ⟨hc.1, Or.inl (am_wd_ok hc.2)⟩
        refine am_size fun hz => ?_
        exact am_callI hF hE hlen hlk.1 hlk.2 hC hdg hcs hP hS (by omega) h1 h2' hl.1 (fun r' w' H1 locs1 q1 q2 q3 q4 => by
          have := go (u' := (u.1 + mC a, u.2 + mS a)) (st' := r'.toList ++ r) H1 locs1 ls q1 (by show s.heap.size + (u.1 + mC a) = base + w'.1; omega) h1 h2' q3 q4 hln hl
          cases r' <;> exact this)
      · exact h.elim
  | ireturn =>
    dsimp only [am_stp] at h
    split at h
    · rename_i y
      have hri : Post (some (.int y)) w ∧ am_Ri k pc (some (.int y)) := by
        dsimp only [am_ck3] at hc
        split at hc
        · rename_i hm
          split at h
          · exact ⟨h, hdg, .int, hm, rfl⟩
          · exact ⟨h.2, hdg, .int, hm, rfl⟩
        · rename_i hm
          have hf := Nat.eq_of_beq_eq_true hc
          subst hf
          exact ⟨h.2, hdg, .boolean, hm, by rcases h.1 with e | e <;> rw [e] <;> rfl⟩
        · cases hc
      exact hret (some (.int y)) w u H locs ls pc hri.1 hsz hu1 hu2 hP hS hri.2
    · exact h.elim
  | return_ =>
    dsimp only [am_stp] at h
    split at h
    · exact hret none w u H locs ls pc h hsz hu1 hu2 hP hS ⟨hdg, of_decide_eq_true hc⟩
    · exact h.elim
  | _ => exact False.elim h
