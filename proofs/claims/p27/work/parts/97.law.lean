/-! THE LAW'S LOOP -/
theorem use_any {zN d k : Nat} {av : List Value} {C : Nat → Nat → Int32} {p : Nat → Option Nat} {K : Int32 → aW → Prop} (h : am_Call d k av (am_w zN C p) (am_Ret zN anyP)) (hk : ∀ e G' C' p', -2000005 ≤ e.toInt → gG G' → seeG C' p' G' → K e (am_w zN C' p')) : am_Ci d k av (am_w zN C p) K := by
  refine am_Call.mono h ?_
  rintro r w' ⟨C', p', rfl, e, G', rfl, h1, h2, h3⟩
  exact hk e G' C' p' h1 h2 h3
theorem use_cl {zN d k : Nat} {av : List Value} {C : Nat → Nat → Int32} {p : Nat → Option Nat} {K : Int32 → aW → Prop} (h : am_Call d k av (am_w zN C p) (am_Ret zN clP)) (hk : ∀ G' C' p', gG G' → seeG C' p' G' → K 1 (am_w zN C' p')) : am_Ci d k av (am_w zN C p) K := by
  refine am_Call.mono h ?_
  rintro r w' ⟨C', p', rfl, rfl, G', h2, h3⟩
  exact hk G' C' p' h2 h3
theorem use_ok {zN d k : Nat} {av : List Value} {C : Nat → Nat → Int32} {p : Nat → Option Nat} {G : aGl} {K : Int32 → aW → Prop} (h : am_Call d k av (am_w zN C p) (am_Ret zN (okP G))) (hk : ∀ C' p', seeG C' p' G → K 1 (am_w zN C' p')) : am_Ci d k av (am_w zN C p) K := by
  refine am_Call.mono h ?_
  rintro r w' ⟨C', p', rfl, rfl, h3⟩
  exact hk C' p' h3
theorem use_rs {zN d k : Nat} {av : List Value} {C : Nat → Nat → Int32} {p : Nat → Option Nat} {G : aGl} {K : Int32 → aW → Prop} (h : am_Call d k av (am_w zN C p) (rsP zN G)) (hk : ∀ C' p', seeG C' p' G → K 1 (am_w (zN + 2) C' p')) : am_Ci d k av (am_w zN C p) K := by
  refine am_Call.mono h ?_
  rintro r w' ⟨rfl, C', p', rfl, h3⟩
  exact hk C' p' h3
theorem am_room_i {u cap : Nat × Nat} {f : Prop} (h1 : u.1 ≤ cap.1) (h2 : u.2 ≤ cap.2) (h : f) : am_room u cap f := by
  unfold am_room
  rw [Nat.ble_eq_true_of_le h1, Nat.ble_eq_true_of_le h2]
  exact h
section
variable {zN d L : Nat} {xs : Nat → Int32} {Post : Option Value → aW → Prop} {C : Nat → Nat → Int32} {p : Nat → Option Nat} {lc : aL} {u : Nat × Nat} {x6 x8 : Int32}
set_option maxRecDepth 100000 in
theorem l108' (h : am_room (u.1 + 2, u.2 + 4) (600000, 7302250) (am_Ci d 170 [.ref 0, .int x6, .int x8] (am_w zN C p) (fun v w1 => am_At (d + 1) 173 (some (L, xs)) Post 111 lc [.int v] w1 (u.1 + 2, u.2 + 4)))) : am_At (d + 1) 173 (some (L, xs)) Post 108 lc [.int x8, .int x6, .ref 0] (am_w zN C p) u := am_wp_ok (stops := [111]) am_k173 1 _ _ _ _ _ h
theorem l108 (h1 : u.1 + 2 ≤ 600000) (h2 : u.2 + 4 ≤ 7302250) (h : am_Ci d 170 [.ref 0, .int x6, .int x8] (am_w zN C p) (fun v w1 => am_At (d + 1) 173 (some (L, xs)) Post 111 lc [.int v] w1 (u.1 + 2, u.2 + 4))) : am_At (d + 1) 173 (some (L, xs)) Post 108 lc [.int x8, .int x6, .ref 0] (am_w zN C p) u := l108' (am_room_i h1 h2 h)
end
section
variable {L : Nat} {xs : Nat → Int32} {Post : Option Value → aW → Prop}
def lAt (L : Nat) (xs : Nat → Int32) (Post : Option Value → aW → Prop) (zN pc : Nat) (lo : aL) (st : List Value) (C : Nat → Nat → Int32) (p : Nat → Option Nat) : Prop := am_At 10 173 (some (L, xs)) Post pc (some (.retAddr 0) :: some (.ref 0) :: some (.int 0) :: lo) st (am_w zN C p) (zN + 74, 2 * zN + 6160)
theorem law_one (hP : ∀ w, Post (some (.int 1)) w) (hL : L ≤ 260) {e : Nat} (he : e < 60)
    (next : ∀ zN C p G o4 o5 o6 o7 o8, zN ≤ 12 * (e + 1) → gG G → seeG C p G → lAt L xs Post zN 21 [some (.int (nI e + 1)), o4, o5, o6, o7, o8] [] C p)
    {zN : Nat} {C : Nat → Nat → Int32} {p : Nat → Option Nat} {G : aGl} {o4 o5 o6 o7 o8 : Option Value} (hz : zN ≤ 12 * e) (hg : gG G) (hs : seeG C p G) : lAt L xs Post zN 21 [some (.int (nI e)), o4, o5, o6, o7, o8] [] C p := by
  refine s_L_law_21 ⟨fun h => absurd ((le5 (a := 60) (b := e) (by omega) (by omega)).mp h) (by omega), fun _ => m_L_cell hL he (fun v => s_L_law_32 (use_any (m_L_does hg hs) fun got G1 C1 p1 hlo hg1 hs1 => s_L_law_40 (use_I (m_L_low (by decide)) ?_)))⟩
  obtain ⟨b1, b2⟩ := lwv_rg (x := v >>> ((6 : Int32) &&& 31)) (n := 2) (by decide)
  obtain ⟨un, hun, hun2⟩ := lt_in (x := lwv (v >>> ((6 : Int32) &&& 31)) 2) (n := 2) b1 b2 (by decide)
  rw [hun]
  have h4 := hg1.1.1
  refine s_L_law_51 ⟨fun h => ?_, fun _ => ?_⟩
  · exfalso
    rw [Int32.lt_iff_toInt_lt, show (-2000005 : Int32).toInt = -2000005 from by decide] at h
    omega
  have b151 : ∀ zN C p x8, zN ≤ 12 * (e + 1) → seeG C p G1 → lAt L xs Post zN 151 [some (.int (nI e)), some (.int v), some (.int got), some (.int (nI un)), some (.int 1), some (.int x8)] [] C p := by
    intro zN C p x8 hz hs
    exact s_L_law_151 ⟨by decide, fun _ => next _ _ _ _ _ _ _ _ _ hz hg1 hs, fun _ => use_cl (m_L_isCleanSo (by omega) hg1 hs) fun G2 C2 p2 hg2 hs2 => s_L_law_164 ⟨fun _ => next _ _ _ _ _ _ _ _ _ hz hg2 hs2, fun h => absurd h one1⟩⟩
  have b119 : ∀ zN C p x8, zN ≤ 12 * (e + 1) → seeG C p G1 → lAt L xs Post zN 119 [some (.int (nI e)), some (.int v), some (.int got), some (.int (nI un)), some (.int 1), some (.int x8)] [] C p := by
    intro zN C p x8 hz hs
    refine s_L_law_119 ⟨fun h => absurd h one1, fun _ => ⟨by decide, fun _ => b151 _ _ _ _ hz hs, fun _ => use_F (m_count hg1 hs) fun C2 p2 hs2 _ => s_L_law_137 ⟨fun _ => b151 _ _ _ _ hz hs2, fun h => ?_⟩⟩⟩
    have hc : qCount G1 0 = nI (gcur G1).1 := by rw [qCount, if_pos rfl]
    change ¬ qCount G1 0 ≤ nI un at h
    rw [hc] at h
    have hA : un < (gcur G1).1 := by
      apply Nat.not_le.mp
      intro hle
      exact h ((le5 (by omega) (by omega)).mpr hle)
    exact use_ok (m_L_areDirectionsSo hg1 hA hs2) fun C3 p3 hs3 => s_L_law_148 ⟨fun h => absurd h one1, fun _ => b151 _ _ _ _ hz hs3⟩
  have b70 : ∀ m r zN C p, r + m = 6 → zN ≤ 12 * e + 2 * r → seeG C p G1 → lAt L xs Post zN 70 [some (.int (nI e)), some (.int v), some (.int got), some (.int (nI un)), some (.int 1), some (.int (nI r))] [] C p := by
    intro m
    induction m with
    | zero =>
      intro r zN C p hr hz hs
      refine s_L_law_70 ⟨fun h => absurd h one1, fun _ => ⟨by decide, fun _ => b119 _ _ _ _ (by omega) hs, fun _ => ⟨fun _ => b119 _ _ _ _ (by omega) hs, fun h => absurd ((le5 (a := 6) (b := r) (by omega) (by omega)).mpr (by omega)) h⟩⟩⟩
    | succ m ih =>
      intro r zN C p hr hz hs
      refine s_L_law_70 ⟨fun h => absurd h one1, fun _ => ⟨by decide, fun _ => b119 _ _ _ _ (by omega) hs, fun _ => ⟨fun _ => b119 _ _ _ _ (by omega) hs, fun _ => use_F (m_round hg1 hs) fun C2 p2 hs2 _ => s_L_law_98 ⟨fun _ => b119 _ _ _ _ (by omega) hs2, fun h => l108 (show zN + 74 + 2 ≤ 600000 by omega) (show 2 * zN + 6160 + 4 ≤ 7302250 by omega) ?_⟩⟩⟩⟩
      change ¬ qRound G1 (nI un) (nI r) 0 = -2000001 at h
      have hA : un < (gcur G1).1 ∧ r < aR (gcur G1) un := by
        apply Classical.byContradiction
        intro hno
        exact h (qR_no (by rw [hrA_nI (by omega) (by omega)]; exact decide_eq_false hno))
      refine use_rs (m_L_isRoundSo hg1 (there_i hg1 hA.1 hA.2) hs2) fun C3 p3 hs3 => ?_
      have e1 : (zN + 74 + 2, 2 * zN + 6160 + 4) = (zN + 2 + 74, 2 * (zN + 2) + 6160) := by
        rw [show zN + 74 + 2 = zN + 2 + 74 by omega, show 2 * zN + 6160 + 4 = 2 * (zN + 2) + 6160 by omega]
      show am_At 10 173 (some (L, xs)) Post 111 _ [.int 1] (am_w (zN + 2) C3 p3) (zN + 74 + 2, 2 * zN + 6160 + 4)
      rw [e1]
      refine s_L_law_111 ?_
      rw [nI_1]
      exact ih (r + 1) (zN + 2) C3 p3 (by omega) (by omega) hs3
  exact b70 6 0 zN C1 p1 rfl (by omega) hs1
theorem law_loop (hP : ∀ w, Post (some (.int 1)) w) (hL : L ≤ 260) : ∀ m e zN C p G o4 o5 o6 o7 o8, e + m = 60 → zN ≤ 12 * e → gG G → seeG C p G → lAt L xs Post zN 21 [some (.int (nI e)), o4, o5, o6, o7, o8] [] C p := by
  intro m
  induction m with
  | zero =>
    intro e zN C p G o4 o5 o6 o7 o8 he hz hg hs
    exact s_L_law_21 ⟨fun _ => ⟨fun h => absurd rfl h, fun _ => ⟨Or.inr rfl, hP _⟩⟩, fun h => absurd ((le5 (a := 60) (b := e) (by omega) (by omega)).mpr (by omega)) h⟩
  | succ m ih =>
    intro e zN C p G o4 o5 o6 o7 o8 he hz hg hs
    refine law_one hP hL (by omega) (fun zN C p G o4 o5 o6 o7 o8 hz hg hs => ?_) hz hg hs
    rw [nI_1]
    exact ih (e + 1) zN C p G _ _ _ _ _ (by omega) hz hg hs
theorem law_all (hP : ∀ w, Post (some (.int 1)) w) (hL : L ≤ 260) : am_At 10 173 (some (L, xs)) Post 0 [some (.retAddr 0), none, none, none, none, none, none, none, none] [] ((0, am_sh, fun _ _ => 0, fun _ _ => none) : aW) (0, 0) := by
  refine law_start (fun _ _ => rfl) (fun _ _ => rfl) ?_
  rw [w0_eq]
  have g0 := gG_0
  have E1 : oSetUp cG0 = (nI 0, grec cG0 (upN cA0)) := by
    rw [oSetUp, if_pos (show (gcur cG0).1 < 4 by decide)]
    rfl
  have g1 := gG_oSetUp g0
  rw [E1] at g1
  change gG (grec cG0 (upN cA0)) at g1
  have E2 : (oBegin (grec cG0 (upN cA0)) 0).1 = nI 0 := by
    have h1 : hsA (gcur (grec cG0 (upN cA0))) 0 = true := by
      rw [show (0 : Int32) = nI 0 from rfl, hsA_nI (by decide)]
      exact decide_eq_true (show 0 < 0 + 1 by decide)
    rw [oBegin, if_pos h1, if_pos (show aR (gcur (grec cG0 (upN cA0))) (cn 0) < 6 from (by decide : 0 < 6))]
    rfl
  refine s_L_law_8 (use_F (m_setUp g0 seeG_0) fun C1 p1 hs1 _ => ?_)
  rw [E1] at hs1 ⊢
  change seeG C1 p1 (grec cG0 (upN cA0)) at hs1
  refine s_L_law_12 (use_F (m_begin g1 hs1) fun C2 p2 hs2 _ => s_L_law_17 ?_)
  rw [E2, show (nI 0, grec cG0 (upN cA0)).1 + nI 0 = (0 : Int32) from rfl]
  exact law_loop (xs := xs) hP hL 60 0 0 C2 p2 _ _ _ _ _ _ rfl (by omega) (gG_oBegin g1) hs2
end
