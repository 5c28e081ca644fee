/-! isCleanSo -/
variable {zN : Nat}
def clP : Option Value → (Nat → Nat → Int32) → (Nat → Option Nat) → Prop := fun r C' p' => r = some (.int 1) ∧ ∃ G', gG G' ∧ seeG C' p' G'
theorem clnL_N (u : Nat) : ∀ (m : Nat) (A : aS), (clnL u m A).2.1 = A.1
  | 0, _ => rfl
  | m + 1, A => by
    cases h : wrA A u with
    | none => simp only [clnL, h]
    | some x =>
      simp only [clnL, h]
      rw [clnL_N u m, stkA_N, stkA_N]
theorem undo_rec {G : aGl} {A : aS} (hg : gG G) (hA : good A) : ∃ n G2, n ≤ 4 ∧ oUndo (grec G A) = (nI n, G2) ∧ gcur G2 = gcur G ∧ gG G2 := by
  have hr : gG (grec G A) := gG_rec hg hA
  have hu := gG_oUndo hr
  have e1 : (ghis (grec G A)).1 ≠ 0 ∧ (ghis (grec G A)).2 ((ghis (grec G A)).1 - 1) = gcur G := by
    show (recH (ghis G) (gcur G)).1 ≠ 0 ∧ (recH (ghis G) (gcur G)).2 ((recH (ghis G) (gcur G)).1 - 1) = gcur G
    unfold recH
    by_cases h4 : (ghis G).1 = 4
    · rw [if_pos h4]
      exact ⟨(by decide : (4 : Nat) ≠ 0), (if_pos rfl : (if 3 = 3 then gcur G else (ghis G).2 (3 + 1)) = gcur G)⟩
    · rw [if_neg h4]
      exact ⟨Nat.succ_ne_zero _, (if_pos rfl : (if (ghis G).1 = (ghis G).1 then gcur G else (ghis G).2 (ghis G).1) = gcur G)⟩
  have h4 : (ghis (grec G A)).1 ≤ 4 := hr.2.2.1
  have e2 : oUndo (grec G A) = (nI ((ghis (grec G A)).1 - 1), ((ghis (grec G A)).2 ((ghis (grec G A)).1 - 1), gkep (grec G A), gsnp (grec G A), ((ghis (grec G A)).1 - 1, (ghis (grec G A)).2), gtxt (grec G A))) := by
    unfold oUndo
    rw [if_neg e1.1]
  rw [e2] at hu
  exact ⟨_, _, by omega, e2, e1.2, hu⟩
theorem nStruck_lt {A : aS} (hg : good A) : nStruck A ≤ 288 := by
  have := sm_le (f := fun row => skn (aF A row)) (b := 6) (k := 0) (m := 48) (fun j _ hj => Nat.le_trans (skn_le _) (hg.2.2.2.2.1 j (by omega)).1)
  exact this
theorem clnL_pos {u m : Nat} {A : aS} {x : Nat × Nat} (h : wrA A u = some x) : 1 ≤ (clnL u (m + 1) A).1 := by
  unfold clnL
  rw [h]
  exact Nat.succ_le_succ (Nat.zero_le _)
theorem cln_facts {u m : Nat} {A : aS} {x : Nat × Nat} (hu : u < 4) (hg : good A) (hm : mu A u ≤ m + 1) (h : wrA A u = some x) : ∃ c A2, clnL u (m + 1) A = (c, A2) ∧ 1 ≤ c ∧ c ≤ m + 1 ∧ good A2 ∧ wrA A2 u = none ∧ nStruck A2 = nStruck A + 2 * c ∧ A2.1 = A.1 :=
  ⟨(clnL u (m + 1) A).1, (clnL u (m + 1) A).2, rfl, clnL_pos h, clnL_le u (m + 1) A, good_cln (m + 1) A hg hu, clnL_end hu (m + 1) A hg hm, clnL_struck hu (m + 1) A hg, clnL_N u (m + 1) A⟩
theorem n05 : ¬ (0 : Int32) ≤ -2000005 := by decide
theorem n01 : ¬ (0 : Int32) ≤ -2000001 := by decide
theorem n51 : ¬ (-2000005 : Int32) = -2000001 := by decide
theorem qC_3 {G : aGl} : qCount G 3 = nI (nStruck (gcur G)) := by
  rw [qCount, if_neg (by decide), if_neg (by decide), if_neg (by decide), if_pos rfl]
theorem qC_4 {G : aGl} : qCount G 4 = nI (nBad (gcur G)) := by
  rw [qCount, if_neg (by decide), if_neg (by decide), if_neg (by decide), if_neg (by decide), if_pos rfl]
theorem m_L_isCleanSo {d : Nat} {C : Nat → Nat → Int32} {p : Nat → Option Nat} {G : aGl} {un : Nat} (hun : un < 5000) (hg : gG G) (hs : seeG C p G) : am_Call (d + 8) 172 [.ref 0, .int (nI un)] (am_w zN C p) (am_Ret zN clP) := by
  have one : ∀ {C' : Nat → Nat → Int32} {p' : Nat → Option Nat} {G' : aGl}, gG G' → seeG C' p' G' → am_Ret zN clP (some (.int 1)) (am_w zN C' p') := fun {C' p' G'} h1 h2 => ⟨C', p', rfl, rfl, G', h1, h2⟩
  apply e_L_isCleanSo
  refine s_L_isCleanSo_0 (use_F (m_count hg hs) fun C1 p1 hs1 _ => s_L_isCleanSo_5 (use_F (m_count hg hs1) fun C2 p2 hs2 _ => s_L_isCleanSo_11 ?_))
  change seeG C2 p2 G at hs2
  show am_At (d + 7 + 1) 172 none (am_Ret zN clP) 18 [some (.ref 0), some (.int (nI un)), some (.int (qCount G 3)), some (.int (qCount G 4)), some (.int 0), some (.int 0), none, none] [] (am_w zN C2 p2) (0, 0)
  rw [qC_3, qC_4]
  by_cases hA : un < (gcur G).1
  · have h4 := hg.1.1
    have hu4 : un < 4 := by omega
    have h6 := (hg.1.2.2.2.1 un hu4).1
    have hsa : hsA (gcur G) (nI un) = true := by rw [hsA_nI (by omega)]; exact decide_eq_true hA
    have behind : ∀ C p, seeG C p G → am_At (d + 7 + 1) 172 none (am_Ret zN clP) 26 [some (.ref 0), some (.int (nI un)), some (.int (nI (nStruck (gcur G)))), some (.int (nI (nBad (gcur G)))), some (.int (bs (orb (bad (GA (gcur G) un) (aR (gcur G) un) (gcur G).2.1) (aR (gcur G) un)) 6)), some (.int (nI (aR (gcur G) un))), none, none] [.int (-2000001)] (am_w zN C p) (0, 0) := by
      intro C p hs
      refine s_L_isCleanSo_26 ⟨fun _ => use_F (m_clean hg hs) fun C3 p3 hs3 _ => ?_, fun h => absurd rfl h⟩
      have E : oClean G (nI un) = match wrA (gcur G) un with
          | none => (-2000005, G)
          | some _ => (nI (clnL un 36 (gcur G)).1, grec G (clnL un 36 (gcur G)).2) := by
        rw [oClean, if_neg (by rw [hsa]; decide), cn_nI (by omega)]
        cases wrA (gcur G) un <;> rfl
      cases hw : wrA (gcur G) un with
      | none =>
        simp only [hw] at E
        rw [E] at hs3 ⊢
        have hz : bs (orb (bad (GA (gcur G) un) (aR (gcur G) un) (gcur G).2.1) (aR (gcur G) un)) 6 = 0 := (bs_z _).1.mpr (fun t ht => orb_f.mpr (fun r hr => wrA_none.mp hw r hr t ht))
        exact s_L_isCleanSo_56 ⟨fun h => absurd h n05, fun _ => ⟨fun _ => ⟨fun h => absurd rfl h, fun _ => ⟨fun h => absurd hz h, fun _ => ⟨Or.inr rfl, one hg hs3⟩⟩⟩, fun h => absurd h n51⟩⟩
      | some x =>
        obtain ⟨c, A2, hcl, hc1, hc36, hAg, hmu, hst, hN⟩ := cln_facts (m := 35) hu4 hg.1 (mu_le h6) hw
        have hS := nStruck_lt hg.1
        simp only [hw] at E
        rw [hcl] at E
        rw [E] at hs3 ⊢
        change seeG C3 p3 (grec G A2) at hs3
        have hg1 : gG (grec G A2) := gG_rec hg hAg
        have hpos : ¬ bs (orb (bad (GA (gcur G) un) (aR (gcur G) un) (gcur G).2.1) (aR (gcur G) un)) 6 ≤ 0 := by
          intro h
          have h2 := (bs_z _).1.mp ((bs_z _).2 h)
          have h3 : wrA (gcur G) un = none := wrA_none.mpr (fun r hr t ht => orb_f.mp (h2 t ht) r hr)
          rw [hw] at h3
          cases h3
        have hb0 : bs (orb (bad (GA (gcur G) un) (aR (gcur G) un) (gcur G).2.1) (aR (gcur G) un)) 6 &&& 1 = 0 := (bs_and1 _).mpr (orb_f.mpr (fun r _ => bad_0 hg.1))
        have i0 : (0 : Int32).toInt = 0 := rfl
        refine s_L_isCleanSo_56 ⟨fun _ => ⟨fun h => absurd h hpos, fun _ => ⟨fun h => ?_, fun _ => use_F (m_count hg1 hs3) fun C4 p4 hs4 _ => s_L_isCleanSo_123 ⟨fun h => absurd ?_ h, fun _ => use_F (m_clean hg1 hs4) fun C5 p5 hs5 _ => ?_⟩⟩⟩, fun h => absurd ?_ h⟩
        · exfalso
          change nI c ≤ 0 at h
          rw [Int32.le_iff_toInt_le, nI_toI (by omega), i0] at h
          omega
        · show qCount (grec G A2) 3 = nI (nStruck (gcur G)) + 2 * nI c
          rw [qC_3, show (2 : Int32) = nI 2 from rfl, nI_mul, nI_add]
          show nI (nStruck A2) = _
          rw [hst]
        · have E2 : oClean (grec G A2) (nI un) = (-2000005, grec G A2) := by
            have : hsA (gcur (grec G A2)) (nI un) = true := by
              rw [hsA_nI (by omega)]
              show decide (un < A2.1) = true
              rw [hN]
              exact decide_eq_true hA
            rw [oClean, if_neg (by rw [this]; decide), cn_nI (by omega)]
            show (match wrA A2 un with
              | none => _
              | some _ => _) = _
            rw [hmu]
          change seeG C5 p5 (oClean (grec G A2) (nI un)).2 at hs5
          rw [E2] at hs5
          change seeG C5 p5 (grec G A2) at hs5
          obtain ⟨n, G2, hn, hU, hcur, hgU⟩ := undo_rec (A := A2) hg hAg
          have last : ∀ C p, seeG C p (grec G A2) → am_Ci (d + 7) 64 [.ref 0] (am_w zN C p) (fun v w1 => am_At (d + 7 + 1) 172 none (am_Ret zN clP) 160 [some (.ref 0), some (.int (nI un)), some (.int (nI (nStruck (gcur G)))), some (.int (nI (nBad (gcur G)))), some (.int (bs (orb (bad (GA (gcur G) un) (aR (gcur G) un) (gcur G).2.1) (aR (gcur G) un)) 6)), some (.int (nI c)), some (.int 1), none] [.int v] w1 (0, 0)) := by
            intro C p hs
            refine use_F (m_undo hg1 hs) fun C6 p6 hs6 _ => ?_
            rw [hU] at hs6 ⊢
            change seeG C6 p6 G2 at hs6
            refine s_L_isCleanSo_160 ⟨fun h => absurd h (by decide), fun _ => ⟨fun h => ?_, fun _ => use_F (m_count hgU hs6) fun C7 p7 hs7 _ => s_L_isCleanSo_177 ⟨fun h => absurd ?_ h, fun _ => use_F (m_count hgU hs7) fun C8 p8 hs8 _ => s_L_isCleanSo_186 ⟨fun h => absurd ?_ h, fun _ => ⟨Or.inr rfl, one hgU hs8⟩⟩⟩⟩⟩
            · exfalso
              change nI n < 0 at h
              rw [Int32.lt_iff_toInt_lt, nI_toI (by omega), i0] at h
              omega
            · show qCount G2 3 = _
              rw [qC_3, hcur]
            · show qCount G2 4 = _
              rw [qC_4, hcur]
          show am_At (d + 7 + 1) 172 none (am_Ret zN clP) 137 [some (.ref 0), some (.int (nI un)), some (.int (nI (nStruck (gcur G)))), some (.int (nI (nBad (gcur G)))), some (.int (bs (orb (bad (GA (gcur G) un) (aR (gcur G) un) (gcur G).2.1) (aR (gcur G) un)) 6)), some (.int (nI c)), none, none] [.int (oClean (grec G A2) (nI un)).1] (am_w zN C5 p5) (0, 0)
          rw [E2]
          exact s_L_isCleanSo_137 ⟨fun h => absurd rfl h, fun _ => ⟨fun h => absurd hb0 h, fun _ => last _ _ hs5⟩⟩
        · show (0 : Int32) ≤ nI c
          rw [Int32.le_iff_toInt_le, nI_toI (by omega), i0]
          omega
    have loop : ∀ m r C p, r + m = aR (gcur G) un → seeG C p G → am_At (d + 7 + 1) 172 none (am_Ret zN clP) 18 [some (.ref 0), some (.int (nI un)), some (.int (nI (nStruck (gcur G)))), some (.int (nI (nBad (gcur G)))), some (.int (bs (orb (bad (GA (gcur G) un) (aR (gcur G) un) (gcur G).2.1) r) 6)), some (.int (nI r)), none, none] [] (am_w zN C p) (0, 0) := by
      intro m
      induction m with
      | zero =>
        intro r C p hr hs
        have e : r = aR (gcur G) un := by omega
        subst e
        refine s_L_isCleanSo_18 (use_F (m_round hg hs) fun C3 p3 hs3 _ => ?_)
        have hq : qRound G (nI un) (nI (aR (gcur G) un)) 0 = -2000001 := qR_no (by rw [hrA_nI (by omega) (by omega)]; exact decide_eq_false (by omega))
        show am_At (d + 7 + 1) 172 none (am_Ret zN clP) 26 _ [.int (qRound G (nI un) (nI (aR (gcur G) un)) 0)] _ _
        rw [hq]
        exact behind _ _ hs3
      | succ m ih =>
        intro r C p hr hs
        have ht := there_i hg hA (rn := r) (by omega)
        refine s_L_isCleanSo_18 (use_F (m_round hg hs) fun C3 p3 hs3 _ => ?_)
        have hq : qRound G (nI un) (nI r) 0 = _ := qR_n (f := 0) ht (by decide)
        have hn6 := (hg.1.2.2.2.2.1 ((un * 6 + r) * 2 + 0) (by omega)).1
        have hne : ¬ qRound G (nI un) (nI r) 0 = -2000001 := by
          rw [hq]
          intro e
          have := congrArg Int32.toInt e
          rw [nI_toI (by omega), show (-2000001 : Int32).toInt = -2000001 from by decide] at this
          omega
        refine s_L_isCleanSo_26 ⟨fun h => absurd h hne, fun _ => use_F (m_round hg hs3) fun C4 p4 hs4 _ => s_L_isCleanSo_42 ?_⟩
        rw [nI_1]
        show am_At (d + 7 + 1) 172 none (am_Ret zN clP) 18 [some (.ref 0), some (.int (nI un)), some (.int (nI (nStruck (gcur G)))), some (.int (nI (nBad (gcur G)))), some (.int (bs (orb (bad (GA (gcur G) un) (aR (gcur G) un) (gcur G).2.1) r) 6 ||| qRound G (nI un) (nI r) 7)), some (.int (nI (r + 1))), none, none] [] (am_w zN C4 p4) (0, 0)
        rw [qR_7 ht, bs_or]
        exact ih (r + 1) C4 p4 (by omega) hs4
    have h0 := loop (aR (gcur G) un) 0 C2 p2 (by omega) hs2
    rw [show bs (orb (bad (GA (gcur G) un) (aR (gcur G) un) (gcur G).2.1) 0) 6 = 0 from bs_zero.symm] at h0
    exact h0
  · have hsa : hsA (gcur G) (nI un) = false := by rw [hsA_nI (by omega)]; exact decide_eq_false hA
    have hra : hrA (gcur G) (nI un) 0 = false := by
      unfold hrA
      rw [hsa]
      rfl
    have hq : qRound G (nI un) 0 0 = -2000001 := by rw [qRound, if_pos hra]
    have hc : oClean G (nI un) = (-2000001, G) := by rw [oClean, if_pos hsa]
    have hd : qDirection G (nI un) 0 4 = -2000001 := by rw [qDirection, if_pos hsa]
    refine s_L_isCleanSo_18 (use_F (m_round hg hs2) fun C3 p3 hs3 _ => ?_)
    refine s_L_isCleanSo_26 ⟨fun _ => use_F (m_clean hg hs3) fun C4 p4 hs4 _ => ?_, fun h => absurd hq h⟩
    rw [hc] at hs4 ⊢
    change seeG C4 p4 G at hs4
    refine s_L_isCleanSo_56 ⟨fun h => absurd h n01, fun _ => ⟨fun h => absurd rfl h, fun _ => use_F (m_direction hg hs4) fun C5 p5 hs5 _ => s_L_isCleanSo_77 ⟨fun h => absurd hd h, fun _ => ⟨Or.inr rfl, one hg hs5⟩⟩⟩⟩
