section
variable {d : Nat} {C : Nat → Nat → Int32} {p : Nat → Option Nat} {G : aGl}
theorem M_round {u r w : Int32} (hs : seesM (C 75) (gcur G)) (hg : good (gcur G)) : cI (d + 12) 144 [.ref 74, .int u, .int r, .int w] C p (qRound G u r w) C p := by
  have c7 : (7 : Int32).toInt = 7 := by decide
  apply e_M_round
  apply s_M_round_0
  refine use_I (m_M_isRound hs hg) (s_M_round_6 ⟨fun h1 => ?_, fun h => ret_I' (by rw [qRound, if_pos (bI_eq.mp h)]) rfl rfl⟩)
  rw [bI_ne] at h1
  unfold qRound
  rw [if_neg (show ¬ hrA (gcur G) u r = false by rw [h1]; decide)]
  obtain ⟨un, rn, rfl, hu1, hu, rfl, hr1, hr⟩ := hrA_ok h1 hg
  rw [cn_nI (n := un) (by omega), cn_nI (n := rn) (by omega)]
  have h4 := hg.1
  have e0 : rwx (nI un) (nI rn) 0 = rwn un rn 0 := rwx_nI (f := 0) hu hr (by decide)
  have e1 : rwx (nI un) (nI rn) 1 = rwn un rn 1 := rwx_nI (f := 1) hu hr (by decide)
  -- one face's number, and its drift
  have cnt0 : ∀ f, f < 2 → vp_in (nI (fbs un rn f) + 0) 1028 ∧ C 75 (nI (fbs un rn f) + 0).toNatClampNeg = nI (aF (gcur G) (rwn un rn f)).1 := by
    intro f hf
    have hb := fbs_lt hu hr hf
    rw [nI_p0, cl (by omega)]
    exact ⟨vpi (by omega) (by decide), (hs.2.2.2.2 un rn f hu1 hr1 hf).1⟩
  have dr : ∀ f w, f < 2 → vp_in (nI (fbs un rn f) + 1) 1028 ∧ ((¬ C 75 (nI (fbs un rn f) + 1).toNatClampNeg = 1 → am_Ret (am_eI (if (aF (gcur G) (rwn un rn f)).2.2.2.2 = -1 then -2000005 else drf (aF (gcur G) (rwn un rn f))) C p) (some (.int (-2000005))) (am_w C p)) ∧ (C 75 (nI (fbs un rn f) + 1).toNatClampNeg = 1 → am_Ci (d + 11) 102 [.ref 74, .int (nI (fbs un rn f))] (am_w C p) (fun v w1 => am_At (d + 11 + 1) 144 none (am_Ret (am_eI (if (aF (gcur G) (rwn un rn f)).2.2.2.2 = -1 then -2000005 else drf (aF (gcur G) (rwn un rn f))) C p)) 109 [some (.ref 74), some (.int (nI un)), some (.int (nI rn)), some (.int w), some (.int (nI (fbs un rn f)))] [.int v] w1 (0, 0)))) := by
    intro f w hf
    have hb := fbs_lt hu hr hf
    have mr := hs.2.2.2.2 un rn f hu1 hr1 hf
    have fk := hg.2.2.2.2.1 (rwn un rn f) (by unfold rwn; omega)
    rw [nI_1, cl (by omega)]
    refine ⟨vpi (by omega) (by decide), fun h => ret_I' ?_ rfl rfl, fun h => ?_⟩
    · rw [if_pos (mr.2.2.2.mpr (mr.2.1.resolve_right h))]
    · have hne : ¬ (aF (gcur G) (rwn un rn f)).2.2.2.2 = -1 := fun e => by
        have := mr.2.2.2.mp e
        rw [h] at this
        exact absurd this (by decide)
      rw [if_neg hne]
      exact use_I (m_M_drift hb mr h (fk.2.1 hne)) (s_M_round_109 (ret_I' rfl rfl rfl))
  have rest : ∀ f, f < 2 → ¬ w = 1 → ¬ w = 3 → (w = 0 → f = 0) → (w = 2 → f = 0) → am_At (d + 11 + 1) 144 none (am_Ret (am_eI (if ¬ (0 ≤ w.toInt ∧ w.toInt ≤ 7) then -2000002 else if w = 0 ∨ w = 1 then nI (aF (gcur G) (rwx (nI un) (nI rn) w)).1 else if w = 2 ∨ w = 3 then (if (aF (gcur G) (rwx (nI un) (nI rn) (w - 2))).2.2.2.2 = -1 then -2000005 else drf (aF (gcur G) (rwx (nI un) (nI rn) (w - 2)))) else if w = 4 then bs (us (GA (gcur G) un) rn) 6 else if w = 5 then nI (skR (gcur G) (nI un) (nI rn)) else if w = 6 then (if (msd (GA (gcur G) un) rn 6).1 = 0 then -2000005 else fdv (msd (GA (gcur G) un) rn 6).2 (nI (msd (GA (gcur G) un) rn 6).1)) else bs (bad (GA (gcur G) un) (aR (gcur G) un) (gcur G).2.1 rn) 6) C p)) 32 [some (.ref 74), some (.int (nI un)), some (.int (nI rn)), some (.int w), none] [.int (nI (fbs un rn f))] (am_w C p) (0, 0) := by
    intro f hf n1 n3 h0f h2f
    apply s_M_round_32
    refine ⟨fun h => ?_, fun n0 => ⟨fun h => absurd h n1, fun _ => ⟨fun h => ?_, fun n2 => ⟨fun h => absurd h n3, fun _ => ⟨fun h => ?_, fun n4 => ⟨fun h => ?_, fun n5 => ⟨fun h => ?_, fun n6 => ⟨fun h => ?_, fun n7 => ret_I' ?_ rfl rfl⟩⟩⟩⟩⟩⟩⟩⟩
    · have := h0f h
      subst this
      subst h
      rw [if_neg (by decide), if_pos (Or.inl rfl), e0]
      obtain ⟨a, b⟩ := cnt0 0 (by decide)
      rw [b]
      exact ⟨a, ret_I' rfl rfl rfl⟩
    · have := h2f h
      subst this
      subst h
      rw [if_neg (by decide), if_neg (by decide), if_pos (Or.inl rfl), show (2 : Int32) - 2 = 0 from rfl, e0]
      exact dr 0 2 (by decide)
    · subst h
      rw [if_neg (by decide), if_neg (by decide), if_neg (by decide), if_pos rfl]
      exact use_I (m_M_used (d := d + 6) hs hg hu1 hr1) (s_M_round_121 (ret_I' rfl rfl rfl))
    · subst h
      rw [if_neg (by decide), if_neg (by decide), if_neg (by decide), if_neg (by decide), if_pos rfl, skR, e0, e1]
      exact use_I (m_M_struckOf (d := d + 8) hs hg hu1 hr1) (s_M_round_128 (ret_I' rfl rfl rfl))
    · subst h
      rw [if_neg (by decide), if_neg (by decide), if_neg (by decide), if_neg (by decide), if_neg (by decide), if_pos rfl]
      exact use_I (m_M_meanSight (d := d + 4) hs hg hu1 hr1) (s_M_round_135 (ret_I' rfl rfl rfl))
    · subst h
      rw [if_neg (by decide), if_neg (by decide), if_neg (by decide), if_neg (by decide), if_neg (by decide), if_neg (by decide)]
      exact use_I (m_M_bad (d := d) hs hg hu1 hr1) (s_M_round_142 (ret_I' rfl rfl rfl))
    · by_cases hr7 : 0 ≤ w.toInt ∧ w.toInt ≤ 7
      · exfalso
        obtain ⟨k, rfl, hk⟩ := lt_in (x := w) (n := 8) hr7.1 (by omega) (by decide)
        obtain rfl | rfl | rfl | rfl | rfl | rfl | rfl | rfl : k = 0 ∨ k = 1 ∨ k = 2 ∨ k = 3 ∨ k = 4 ∨ k = 5 ∨ k = 6 ∨ k = 7 := by omega
        · exact n0 rfl
        · exact n1 rfl
        · exact n2 rfl
        · exact n3 rfl
        · exact n4 rfl
        · exact n5 rfl
        · exact n6 rfl
        · exact n7 rfl
      · rw [if_pos hr7]
  refine ⟨fun h => ?_, fun n1 => ⟨fun n3 => use_I (m_M_faceAt (f := 0)) (rest 0 (by decide) n1 n3 (fun _ => rfl) (fun _ => rfl)), fun h => ?_⟩⟩
  · subst h
    refine use_I (m_M_faceAt (f := 1)) (s_M_round_32 ⟨fun h => absurd h (by decide), fun _ => ⟨fun _ => ?_, fun h => absurd rfl h⟩⟩)
    rw [if_neg (by decide), if_pos (Or.inr rfl), e1]
    obtain ⟨a, b⟩ := cnt0 1 (by decide)
    rw [b]
    exact ⟨a, ret_I' rfl rfl rfl⟩
  · subst h
    refine use_I (m_M_faceAt (f := 1)) (s_M_round_32 ⟨fun h => absurd h (by decide), fun _ => ⟨fun h => absurd h (by decide), fun _ => ⟨fun h => absurd h (by decide), fun _ => ⟨fun _ => ?_, fun h => absurd rfl h⟩⟩⟩⟩)
    rw [if_neg (by decide), if_neg (by decide), if_pos (Or.inr rfl), show (3 : Int32) - 2 = 1 from rfl, e1]
    exact dr 1 3 (by decide)
end
