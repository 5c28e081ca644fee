/-! areDirectionsSo -/
variable {zN : Nat}
def okP (G : aGl) : Option Value → (Nat → Nat → Int32) → (Nat → Option Nat) → Prop := fun r C' p' => r = some (.int 1) ∧ seeG C' p' G
section
variable {d : Nat} {G : aGl} {un : Nat}
/-- place pc of areDirectionsSo: behind the set-up -/
def dAt (zN d : Nat) (G : aGl) (un pc : Nat) (lo : aL) (st : List Value) (C : Nat → Nat → Int32) (p : Nat → Option Nat) : Prop := am_At (d + 7 + 1) 171 none (am_Ret zN (okP G)) pc (some (.ref 0) :: some (.int (nI un)) :: some (.int 1) :: lo) st (am_w zN C p) (0, 0)
theorem one1 : ¬ (1 : Int32) = 0 := by decide
/-- the angles to the targets ahead -/
theorem dir_k (hg : gG G) (hA : un < (gcur G).1) {t : Nat} (ht : t < 6) {x5 x6 : Int32} (next : ∀ C p o7 o8, seeG C p G → dAt zN d G un 4 [some (.int (nI (t + 1))), some (.int (dv (gcur G) un t)), some (.int x5), some (.int x6), o7, o8] [] C p) : ∀ m k C p o8, k + m = t → seeG C p G → dAt zN d G un 281 [some (.int (nI t)), some (.int (dv (gcur G) un t)), some (.int x5), some (.int x6), some (.int (nI k)), o8] [] C p := by
  have h4 := hg.1.1
  have hu4 : un < 4 := by omega
  intro m
  induction m with
  | zero =>
    intro k C p o8 hk hs
    have e : k = t := by omega
    subst e
    refine s_L_areDirectionsSo_281 ⟨fun _ => ?_, fun h => absurd (Int32.le_refl _) h⟩
    rw [nI_1]
    exact next _ _ _ _ hs
  | succ m ih =>
    intro k C p o8 hk hs
    have hkt : k < 6 := by omega
    refine s_L_areDirectionsSo_281 ⟨fun h => absurd ((le5 (by omega) (by omega)).mp h) (by omega), fun _ => use_F (m_angle hg hs) fun C1 p1 hs1 _ => ?_⟩
    change seeG C1 p1 G at hs1
    have nxt : ∀ C p o8, seeG C p G → dAt zN d G un 281 [some (.int (nI t)), some (.int (dv (gcur G) un t)), some (.int x5), some (.int x6), some (.int (nI k + 1)), o8] [] C p := by
      intro C p o8 hs
      rw [nI_1]
      exact ih (k + 1) C p o8 (by omega) hs
    show dAt zN d G un 296 [some (.int (nI t)), some (.int (dv (gcur G) un t)), some (.int x5), some (.int x6), some (.int (nI k)), o8] [.int (qAngle G (nI un) (nI k) (nI t) 0)] C1 p1
    cases hx : dirA (gcur G) un k with
    | none =>
      rw [qA_n hA hu4 hkt ht (Or.inl hx)]
      refine s_L_areDirectionsSo_296 ⟨fun h => absurd h one1, fun _ => ⟨fun h => absurd rfl h, fun _ => ⟨fun _ => nxt _ _ _ hs1, fun _ => use_F (m_direction hg hs1) fun C2 p2 hs2 _ => s_L_areDirectionsSo_324 ⟨fun h => absurd ?_ h, fun _ => nxt _ _ _ hs2⟩⟩⟩⟩
      show qDirection G (nI un) (nI k) 0 = -2000005
      rw [qD_0 hA hu4 hkt, dv, hx]
      rfl
    | some x =>
      cases hy : dirA (gcur G) un t with
      | none =>
        rw [qA_n hA hu4 hkt ht (Or.inr hy)]
        have hd : dv (gcur G) un t = -2000005 := by rw [dv, hy]; rfl
        exact s_L_areDirectionsSo_296 ⟨fun h => absurd h one1, fun _ => ⟨fun h => absurd rfl h, fun _ => ⟨fun _ => nxt _ _ _ hs1, fun h => absurd hd h⟩⟩⟩
      | some y =>
        have hdy : dv (gcur G) un t = y := by rw [dv, hy]; rfl
        have hdx : dv (gcur G) un k = x := by rw [dv, hx]; rfl
        rw [qA_s hA hu4 hkt ht hx hy, if_pos rfl]
        refine s_L_areDirectionsSo_296 ⟨fun h => absurd h one1, fun _ => ⟨fun _ => use_F (m_angle hg hs1) fun C2 p2 hs2 _ => s_L_areDirectionsSo_343 (use_I m_L_full (s_L_areDirectionsSo_347 ⟨fun h => absurd ?_ h, fun _ => use_F (m_direction hg hs2) fun C3 p3 hs3 _ => s_L_areDirectionsSo_362 (use_I m_L_full (s_L_areDirectionsSo_366 ⟨fun h => absurd ?_ h, fun _ => use_F (m_angle hg hs3) fun C4 p4 hs4 _ => s_L_areDirectionsSo_378 (use_F (m_direction hg hs4) fun C5 p5 hs5 _ => s_L_areDirectionsSo_385 (use_F (m_direction hg hs5) fun C6 p6 hs6 _ => s_L_areDirectionsSo_393 (use_I m_L_full (s_L_areDirectionsSo_397 ⟨fun h => absurd ?_ h, fun _ => nxt _ _ _ hs6⟩))))⟩))⟩)), fun h => absurd h (fmd_ne5 _)⟩⟩
        · show fmd (fmd (y - x) + qAngle G (nI un) (nI t) (nI k) 0) = 0
          rw [qA_s hA hu4 ht hkt hy hx, if_pos rfl]
          exact ang_z (dirO_rg hx) (dirO_rg hy)
        · show fmd (y - x) = fmd (dv (gcur G) un t - qDirection G (nI un) (nI k) 0)
          rw [qD_0 hA hu4 hkt, hdx, hdy]
        · show qAngle G (nI un) (nI k) (nI t) 1 = fmd (qDirection G (nI un) (nI t) 2 - qDirection G (nI un) (nI k) 2)
          rw [qA_s hA hu4 hkt ht hx hy, if_neg one1, qD_2 hA hu4 ht hy, qD_2 hA hu4 hkt hx]
/-- one target, behind the rounds -/
theorem dir_t (hg : gG G) (hA : un < (gcur G).1) {t : Nat} (ht : t < 6) {o8 : Option Value} {C : Nat → Nat → Int32} {p : Nat → Option Nat} (hs : seeG C p G)
    (next : ∀ C p x5 x6 o8, seeG C p G → dAt zN d G un 281 [some (.int (nI t)), some (.int (dv (gcur G) un t)), some (.int x5), some (.int x6), some (.int 0), o8] [] C p) :
    dAt zN d G un 36 [some (.int (nI t)), some (.int (dv (gcur G) un t)), some (.int (bs (fun r => us (GA (gcur G) un) r t) (aR (gcur G) un))), some (.int (mls (GA (gcur G) un) (aR (gcur G) un) t (aR (gcur G) un))), some (.int (nI (aR (gcur G) un))), o8] [.int (-2000001)] C p := by
  have h4 := hg.1.1
  have hu4 : un < 4 := by omega
  have h6 := (hg.1.2.2.2.1 un hu4).1
  have hz := dirO_z (G := GA (gcur G) un) (N := aR (gcur G) un) (t := t) h6
  refine s_L_areDirectionsSo_36 ⟨fun _ => ⟨fun h => absurd h one1, fun _ => use_F (m_direction hg hs) fun C1 p1 hs1 _ => s_L_areDirectionsSo_135 ⟨fun h => absurd ?_ h, fun _ => ?_⟩⟩, fun h => absurd rfl h⟩
  · exact (qD_4 hA hu4 ht).symm
  · have b160 : ∀ e : Int32, dAt zN d G un 160 [some (.int (nI t)), some (.int (dv (gcur G) un t)), some (.int (bs (fun r => us (GA (gcur G) un) r t) (aR (gcur G) un))), some (.int (mls (GA (gcur G) un) (aR (gcur G) un) t (aR (gcur G) un))), some (.int (nI (aR (gcur G) un))), o8] [.int e, .int e] C1 p1 := by
      intro e
      refine s_L_areDirectionsSo_160 ⟨fun h => absurd rfl h, fun _ => use_F (m_byAngles hg hs1) fun C2 p2 hs2 _ => s_L_areDirectionsSo_169 ⟨fun h => absurd (qBy hA hu4 ht) h, fun _ => ⟨fun _ => next _ _ _ _ _ hs2, fun hne => ?_⟩⟩⟩
      cases hx : dirA (gcur G) un t with
      | none => exact absurd (hz.mpr hx) hne
      | some x =>
        have hdx : dv (gcur G) un t = x := by rw [dv, hx]; rfl
        have h0 : dirA (gcur G) un 0 = some 0 := dir_0 hx
        obtain ⟨r1, r2⟩ := dirO_rg hx
        have i0 : (0 : Int32).toInt = 0 := rfl
        have fin : ∀ C p, seeG C p G → am_Ci (d + 7) 70 [.ref 0, .int (nI un), .int (nI t), .int 2] (am_w zN C p) (fun v w1 => am_At (d + 7 + 1) 171 none (am_Ret zN (okP G)) 229 [some (.ref 0), some (.int (nI un)), some (.int 1), some (.int (nI t)), some (.int (dv (gcur G) un t)), some (.int (bs (fun r => us (GA (gcur G) un) r t) (aR (gcur G) un))), some (.int (mls (GA (gcur G) un) (aR (gcur G) un) t (aR (gcur G) un))), some (.int (nI (aR (gcur G) un))), o8] [.int v] w1 (0, 0)) := by
          intro C p hs
          refine use_F (m_direction hg hs) fun C4 p4 hs4 _ => s_L_areDirectionsSo_229 (use_F (m_direction hg hs4) fun C5 p5 hs5 _ => s_L_areDirectionsSo_238 (use_F (m_direction hg hs5) fun C6 p6 hs6 _ => s_L_areDirectionsSo_246 (use_I m_L_full (s_L_areDirectionsSo_250 ⟨fun h => absurd ?_ h, fun _ => use_F (m_centring hg hs6) fun C7 p7 hs7 _ => s_L_areDirectionsSo_259 ⟨fun _ => next _ _ _ _ _ hs7, fun hc => use_F (m_direction hg hs7) fun C8 p8 hs8 _ => s_L_areDirectionsSo_269 ⟨fun h => absurd ?_ h, fun _ => next _ _ _ _ _ hs8⟩⟩⟩))))
          · show qDirection G (nI un) (nI t) 2 = fmd (dv (gcur G) un t + qDirection G (nI un) (nI t) 1 - qDirection G (nI un) (nI 0) 1)
            rw [qD_2 hA hu4 ht hx, qD_1 hA hu4 ht hx, qD_1 hA hu4 (by decide) h0, hdx]
            rfl
          · show qDirection G (nI un) (nI t) 1 = 0
            rw [qD_1 hA hu4 ht hx]
            change ¬ (0 : Int32) < qCentring G (nI un) 0 at hc
            rw [qCe hA hu4, Int32.lt_iff_toInt_lt, i0] at hc
            have ho := (hg.1.2.2.2.1 un hu4).2.1.1
            refine crn_z (Int32.toInt_inj.mp ?_)
            rw [i0]
            omega
        refine use_F (m_direction hg hs2) fun C3 p3 hs3 _ => s_L_areDirectionsSo_186 ⟨fun h => absurd (qD_3 hA hu4 ht hx) h, fun _ => ⟨fun h => ?_, fun _ => ⟨fun h => ?_, fun _ => ⟨fun _ => fin _ _ hs3, fun h => ?_⟩⟩⟩⟩
        · exfalso
          rw [hdx, Int32.lt_iff_toInt_lt, i0] at h
          omega
        · exfalso
          rw [hdx, Int32.le_iff_toInt_le, circ] at h
          omega
        · have et : t = 0 := by
            rw [Int32.lt_iff_toInt_lt, nI_toI (by omega), i0] at h
            omega
          subst et
          rw [hx] at h0
          cases h0
          refine ⟨fun h => absurd hdx h, fun _ => use_F (m_direction hg hs3) fun C4 p4 hs4 _ => s_L_areDirectionsSo_219 ⟨fun h => absurd ?_ h, fun _ => fin _ _ hs4⟩⟩
          show qDirection G (nI un) (nI 0) 2 = 0
          rw [qD_2 hA hu4 (by decide) hx]
          exact cdr_0
    have hd : dv (gcur G) un t = -2000005 ↔ dirA (gcur G) un t = none := by
      unfold dv
      cases hx : dirA (gcur G) un t with
      | none => simp [oD]
      | some x =>
        obtain ⟨r1, r2⟩ := dirO_rg hx
        simp only [oD, reduceCtorEq, iff_false]
        intro e
        rw [e, show (-2000005 : Int32).toInt = -2000005 from by decide] at r1
        omega
    refine ⟨fun hne => s_L_areDirectionsSo_148 ⟨fun _ => b160 0, fun h => absurd (hz.mpr (hd.mp h)) hne⟩, fun he => s_L_areDirectionsSo_148 ⟨fun h => absurd (hd.mpr (hz.mp he)) h, fun _ => b160 1⟩⟩
/-- the rounds of one target -/
theorem dir_r (hg : gG G) (hA : un < (gcur G).1) {t : Nat} (ht : t < 6)
    (next : ∀ C p o8, seeG C p G → dAt zN d G un 36 [some (.int (nI t)), some (.int (dv (gcur G) un t)), some (.int (bs (fun r => us (GA (gcur G) un) r t) (aR (gcur G) un))), some (.int (mls (GA (gcur G) un) (aR (gcur G) un) t (aR (gcur G) un))), some (.int (nI (aR (gcur G) un))), o8] [.int (-2000001)] C p) :
    ∀ m r C p o8, r + m = aR (gcur G) un → seeG C p G → dAt zN d G un 28 [some (.int (nI t)), some (.int (dv (gcur G) un t)), some (.int (bs (fun r => us (GA (gcur G) un) r t) r)), some (.int (mls (GA (gcur G) un) (aR (gcur G) un) t r)), some (.int (nI r)), o8] [] C p := by
  have h4 := hg.1.1
  have hu4 : un < 4 := by omega
  have h6 := (hg.1.2.2.2.1 un hu4).1
  intro m
  induction m with
  | zero =>
    intro r C p o8 hr hs
    have e : r = aR (gcur G) un := by omega
    subst e
    refine s_L_areDirectionsSo_28 (use_F (m_round hg hs) fun C3 p3 hs3 _ => ?_)
    have hq : qRound G (nI un) (nI (aR (gcur G) un)) 0 = -2000001 := qR_no (by rw [hrA_nI (by omega) (by omega)]; exact decide_eq_false (by omega))
    show dAt zN d G un 36 _ [.int (qRound G (nI un) (nI (aR (gcur G) un)) 0)] _ _
    rw [hq]
    exact next _ _ _ hs3
  | succ m ih =>
    intro r C p o8 hr hs
    have hth := there_i hg hA (rn := r) (by omega)
    refine s_L_areDirectionsSo_28 (use_F (m_round hg hs) fun C3 p3 hs3 _ => ?_)
    have hq : qRound G (nI un) (nI r) 0 = _ := qR_n (f := 0) hth (by decide)
    have hn6 := (hg.1.2.2.2.2.1 ((un * 6 + r) * 2 + 0) (by omega)).1
    have hne : ¬ qRound G (nI un) (nI r) 0 = -2000001 := by
      rw [hq]
      intro e
      have := congrArg Int32.toInt e
      rw [nI_toI (by omega), show (-2000001 : Int32).toInt = -2000001 from by decide] at this
      omega
    refine s_L_areDirectionsSo_36 ⟨fun h => absurd h hne, fun _ => use_F (m_reduced hg hs3) fun C4 p4 hs4 _ => ?_⟩
    change seeG C4 p4 G at hs4
    show dAt zN d G un 50 [some (.int (nI t)), some (.int (dv (gcur G) un t)), some (.int (bs (fun r => us (GA (gcur G) un) r t) r)), some (.int (mls (GA (gcur G) un) (aR (gcur G) un) t r)), some (.int (nI r)), o8] [.int (qReduced G (nI un) (nI r) (nI t) 1)] C4 p4
    have ihr := fun o8 => ih (r + 1) C4 p4 o8 (by omega) hs4
    have eb : bs (fun r => us (GA (gcur G) un) r t) (r + 1) = if us (GA (gcur G) un) r t then bs (fun r => us (GA (gcur G) un) r t) r ||| (1 <<< (nI r &&& 31)) else bs (fun r => us (GA (gcur G) un) r t) r := bs_s _ _
    have hm := mls_nn (GA (gcur G) un) (aR (gcur G) un) t r
    rw [qd_1 hth ht]
    rw [eb, mls_s, ← nI_1] at ihr
    cases hu : us (GA (gcur G) un) r t with
    | false =>
      rw [if_neg (by simp)]
      have hu' : ¬ us (GA (gcur G) un) r t = true := by rw [hu]; decide
      have el : lws (GA (gcur G) un) (aR (gcur G) un) r t = 0 := by rw [lws, if_neg hu']
      rw [if_neg hu', el, if_neg (by rw [Int32.lt_iff_toInt_lt, show (0 : Int32).toInt = 0 from rfl]; omega)] at ihr
      refine s_L_areDirectionsSo_50 ⟨fun h => absurd rfl h, fun _ => s_L_areDirectionsSo_69 ⟨fun _ => s_L_areDirectionsSo_91 ⟨fun _ => ?_, fun h => absurd rfl h⟩, fun h => absurd rfl h⟩⟩
      rw [Int32.or_zero]
      exact ihr _
    | true =>
      rw [if_pos rfl]
      have el : lws (GA (gcur G) un) (aR (gcur G) un) r t = av (lef (GA (gcur G) un) (aR (gcur G) un) r t) := by rw [lws, if_pos hu]
      have hne5 : ¬ lef (GA (gcur G) un) (aR (gcur G) un) r t = -2000005 := nr_ne5 _
      rw [if_pos hu, el, step_most hm (lef_rg _ _ _ _)] at ihr
      refine s_L_areDirectionsSo_50 ⟨fun _ => s_L_areDirectionsSo_69 ⟨fun h => absurd h hne5, fun _ => ⟨fun ha => ?_, fun ha => ?_⟩⟩, fun h => absurd h hne5⟩
      · rw [if_pos ha] at ihr
        refine s_L_areDirectionsSo_91 ⟨fun h => absurd h hne5, fun _ => ⟨fun hb => ?_, fun hb => ?_⟩⟩
        · rw [if_pos hb] at ihr
          exact ihr _
        · rw [if_neg hb] at ihr
          exact ihr _
      · rw [if_neg ha] at ihr
        exact ihr _
theorem m_L_areDirectionsSo {C : Nat → Nat → Int32} {p : Nat → Option Nat} (hg : gG G) (hA : un < (gcur G).1) (hs : seeG C p G) : am_Call (d + 8) 171 [.ref 0, .int (nI un)] (am_w zN C p) (am_Ret zN (okP G)) := by
  have h4 := hg.1.1
  have hu4 : un < 4 := by omega
  have loop : ∀ m t C p o4 o5 o6 o7 o8, t + m = 6 → seeG C p G → dAt zN d G un 4 [some (.int (nI t)), o4, o5, o6, o7, o8] [] C p := by
    intro m
    induction m with
    | zero =>
      intro t C p o4 o5 o6 o7 o8 ht hs
      have e : t = 6 := by omega
      subst e
      exact s_L_areDirectionsSo_4 ⟨fun _ => ⟨Or.inr rfl, C, p, rfl, rfl, hs⟩, fun h => absurd (by decide) h⟩
    | succ m ih =>
      intro t C p o4 o5 o6 o7 o8 ht hs
      have ht6 : t < 6 := by omega
      refine s_L_areDirectionsSo_4 ⟨fun h => absurd ((le5 (a := 6) (b := t) (by omega) (by omega)).mp h) (by omega), fun _ => use_F (m_direction hg hs) fun C1 p1 hs1 _ => s_L_areDirectionsSo_17 ?_⟩
      change seeG C1 p1 G at hs1
      have h28 := dir_r (zN := zN) (d := d) hg hA ht6 (fun C p o8 hs => dir_t hg hA ht6 hs (fun C p x5 x6 o8 hs => dir_k hg hA ht6 (fun C p o7 o8 hs => ih (t + 1) C p _ _ _ _ _ (by omega) hs) t 0 C p o8 (by omega) hs)) (aR (gcur G) un) 0 C1 p1 o8 (by omega) hs1
      show dAt zN d G un 28 [some (.int (nI t)), some (.int (qDirection G (nI un) (nI t) 0)), some (.int 0), some (.int 0), some (.int 0), o8] [] C1 p1
      rw [qD_0 hA hu4 ht6]
      exact h28
  apply e_L_areDirectionsSo
  exact s_L_areDirectionsSo_0 (loop 6 0 C p _ _ _ _ _ rfl hs)
end
