/-! the model: sums over a state -/
theorem nI_div {a b : Nat} (ha : a < 5000) (hb : 0 < b) (hb2 : b < 5000) : nI a / nI b = nI (a / b) := by
  have hd : a / b ≤ a := Nat.div_le_self a b
  rw [← Int32.toInt_inj, I_div (by rw [nI_toI hb2]; omega), nI_toI ha, nI_toI hb2, nI_toI (by omega)]
  rfl
theorem nI_rem {a b : Nat} (ha : a < 5000) (hb : 0 < b) (hb2 : b < 5000) : nI a - nI a / nI b * nI b = nI (a % b) := by
  have hd : a % b < b := Nat.mod_lt a hb
  rw [← Int32.toInt_inj, I_rem (by rw [nI_toI hb2]; omega), nI_toI ha, nI_toI hb2, nI_toI (by omega)]
  rfl
theorem sm_split (f : Nat → Nat) : ∀ (m k n : Nat), sm f k (m + n) = sm f k m + sm f (k + m) n
  | 0, k, n => by rw [Nat.zero_add]; simp [sm]
  | m + 1, k, n => by
    rw [show m + 1 + n = m + n + 1 by omega]
    simp only [sm]
    rw [sm_split f m (k + 1) n, show k + 1 + m = k + (m + 1) by omega]
    omega
theorem sm_congr {f g : Nat → Nat} : ∀ {m k : Nat}, (∀ j, k ≤ j → j < k + m → f j = g j) → sm f k m = sm g k m
  | 0, _, _ => rfl
  | m + 1, k, h => by
    simp only [sm]
    rw [h k (Nat.le_refl _) (by omega), sm_congr (m := m) (k := k + 1) (fun j h1 h2 => h j (by omega) (by omega))]
theorem sm_zero {f : Nat → Nat} {m k : Nat} (h : ∀ j, k ≤ j → j < k + m → f j = 0) : sm f k m = 0 := by
  rw [sm_congr (g := fun _ => 0) h]
  induction m generalizing k with
  | zero => rfl
  | succ m ih => simp only [sm]; rw [ih (fun j h1 h2 => h j (by omega) (by omega))]
theorem sm_shift {f : Nat → Nat} {a : Nat} : ∀ {m k : Nat}, sm f (a + k) m = sm (fun j => f (a + j)) k m
  | 0, _ => rfl
  | m + 1, k => by
    simp only [sm]
    rw [← sm_shift (m := m) (k := k + 1)]
    rfl
def vS (A : aS) (w : Int32) (x : Nat) : Nat := if x % 12 / 2 < aR A (x / 12) then (if w = 2 then (aF A x).1 else if w = 3 then skn (aF A x) else if w = 6 then (if (aF A x).2.2.2.2 = -1 then 0 else 1) else if x % 2 = 1 then 0 else if w = 1 then 1 else cb (bad (GA A (x / 12)) (aR A (x / 12)) A.2.1 (x % 12 / 2)) 6) else 0
theorem bs6_sh : ∀ b0 b1 b2 b3 b4 b5 : Bool, ∀ j, j < 6 → (bs6 b0 b1 b2 b3 b4 b5 >>> (nI j &&& 31)) &&& 1 = nI ([b0, b1, b2, b3, b4, b5].getD j false).toNat := by decide +kernel
theorem bs_sh {b : Nat → Bool} {j : Nat} (hj : j < 6) : (bs b 6 >>> (nI j &&& 31)) &&& 1 = nI (b j).toNat := by
  rw [bs_six, bs6_sh _ _ _ _ _ _ j hj]
  obtain rfl | rfl | rfl | rfl | rfl | rfl : j = 0 ∨ j = 1 ∨ j = 2 ∨ j = 3 ∨ j = 4 ∨ j = 5 := by omega
  all_goals rfl
section
variable {d : Nat} {C : Nat → Nat → Int32} {p : Nat → Option Nat} {A : aS}
theorem m_M_many {b : Nat → Bool} : cI (d + 1) 155 [.int (bs b 6)] C p (nI (cb b 6)) C p := by
  have loop : ∀ m k, k + m = 6 → am_At (d + 1) 155 none (am_Ret (am_eI (nI (cb b 6)) C p)) 4 [some (.int (bs b 6)), some (.int (nI (cb b k))), some (.int (nI k))] [] (am_w C p) (0, 0) := by
    intro m
    induction m with
    | zero =>
      intro k hk
      apply s_M_many_4
      exact ⟨fun _ => ret_I' (by rw [← hk]; rfl) rfl rfl, fun h => absurd ((le5 (a := 6) (by omega) (by omega)).mpr (by omega)) h⟩
    | succ m ih =>
      intro k hk
      apply s_M_many_4
      rw [bs_sh (by omega), nI_add, nI_1]
      exact ⟨fun h => absurd ((le5 (a := 6) (by omega) (by omega)).mp h) (by omega), fun _ => ih (k + 1) (by omega)⟩
  exact e_M_many (s_M_many_0 (loop 6 0 (by omega)))
theorem m_M_sum {w : Int32} (hs : seesM (C 75) A) (hg : good A) : cI (d + 12) 154 [.ref 74, .int w] C p (nI (sm (vS A w) 0 (12 * A.1))) C p := by
  have h4 := hg.1
  have loop : ∀ m x a o4 o5 o6, x + m = 12 * A.1 → a + sm (vS A w) x m = sm (vS A w) 0 (12 * A.1) → am_At (d + 12) 154 none (am_Ret (am_eI (nI (sm (vS A w) 0 (12 * A.1))) C p)) 4 [some (.ref 74), some (.int w), some (.int (nI a)), some (.int (nI x)), o4, o5, o6] [] (am_w C p) (0, 0) := by
    intro m
    induction m with
    | zero =>
      intro x a o4 o5 o6 hx ha
      apply s_M_sum_4
      rw [show ((0 : Int32).toNatClampNeg) = 0 from rfl, hs.1, show (12 : Int32) = nI 12 from rfl, nI_mul]
      exact ⟨vpi (n := 0) (by decide) (by decide), fun _ => ret_I' (by rw [← ha]; rfl) rfl rfl, fun h => absurd ((le5 (by omega) (by omega)).mpr (by omega)) h⟩
    | succ m ih =>
      intro x a o4 o5 o6 hx ha
      simp only [sm] at ha
      have hdm : x / 12 < A.1 := by omega
      have h6 := (hg.2.2.2.1 (x / 12) (by omega)).1
      apply s_M_sum_4
      rw [show ((0 : Int32).toNatClampNeg) = 0 from rfl, hs.1, show (12 : Int32) = nI 12 from rfl, show (2 : Int32) = nI 2 from rfl, nI_mul, nI_rem (by omega) (by decide) (by decide), nI_rem (by omega) (by decide) (by decide), nI_div (by omega) (by decide) (by decide), nI_div (by omega) (by decide) (by decide)]
      refine ⟨vpi (n := 0) (by decide) (by decide), fun h => absurd ((le5 (by omega) (by omega)).mp h) (by omega), fun _ => ⟨by decide, by decide, by decide, by decide, use_I m_M_faceAt (s_M_sum_41 (use_I (m_M_isRound hs hg) (s_M_sum_51 ?_)))⟩⟩
      have hr : hrA A (nI (x / 12)) (nI (x % 12 / 2)) = decide (x % 12 / 2 < aR A (x / 12)) := by
        have h1 : hsA A (nI (x / 12)) = true := by
          rw [hsA, decide_eq_true_eq, nI_toI (by omega)]
          omega
        rw [hrA, h1, Bool.true_and, nI_toI (by omega), cn_nI (by omega)]
        congr 1
        apply propext
        omega
      rw [hr, bI_eq, decide_eq_false_iff_not]
      refine ⟨fun h => ?_, fun h => ?_⟩
      · have e : vS A w x = 0 := by rw [vS, if_neg h]
        rw [nI_1]
        exact ih (x + 1) a _ _ _ (by omega) (by omega)
      · rw [Classical.not_not] at h
        have ev : vS A w x = if w = 2 then (aF A x).1 else if w = 3 then skn (aF A x) else if w = 6 then (if (aF A x).2.2.2.2 = -1 then 0 else 1) else if x % 2 = 1 then 0 else if w = 1 then 1 else cb (bad (GA A (x / 12)) (aR A (x / 12)) A.2.1 (x % 12 / 2)) 6 := by rw [vS, if_pos h]
        have hb := fbs_lt (u := x / 12) (r := x % 12 / 2) (f := x % 2) (by omega) (by omega) (by omega)
        have mr := hs.2.2.2.2 (x / 12) (x % 12 / 2) (x % 2) hdm h (by omega)
        have er : rwn (x / 12) (x % 12 / 2) (x % 2) = x := by unfold rwn; omega
        rw [er] at mr
        have fk := hg.2.2.2.2.1 x (by omega)
        have fin : ∀ v, v = vS A w x → am_At (d + 12) 154 none (am_Ret (am_eI (nI (sm (vS A w) 0 (12 * A.1))) C p)) 135 [some (.ref 74), some (.int w), some (.int (nI a)), some (.int (nI x)), some (.int (nI (x / 12))), some (.int (nI (x % 12 / 2))), some (.int (nI (fbs (x / 12) (x % 12 / 2) (x % 2))))] [.int (nI v), .int (nI a)] (am_w C p) (0, 0) := by
          intro v hv
          apply s_M_sum_135
          rw [nI_add, nI_1]
          exact ih (x + 1) _ _ _ _ (by omega) (by rw [hv]; omega)
        generalize fbs (x / 12) (x % 12 / 2) (x % 2) = B at *
        rw [nI_p0, nI_1, cl (n := B) (by omega), cl (n := B + 1) (by omega), mr.1, show (2 : Int32) = nI 2 from rfl, nI_rem (by omega) (by decide) (by decide), show nI 2 = (2 : Int32) from rfl]
        refine ⟨fun n2 => ⟨fun n3 => ⟨fun n6 => ⟨by decide, fun n1 => ⟨fun w1 => ?_, fun w1 => ?_⟩, fun e1 => ?_⟩, fun w6 => ⟨vpi (by omega) (by decide), ?_⟩⟩, fun w3 => ?_⟩, fun w2 => ⟨vpi (by omega) (by decide), fin _ (by rw [ev, if_pos w2])⟩⟩
        · have hx1 : ¬ x % 2 = 1 := fun e => n1 (by rw [e]; rfl)
          refine use_I (m_M_bad (d := d) hs hg hdm h) (s_M_sum_132 (use_I m_M_many (fin _ ?_)))
          rw [ev, if_neg n2, if_neg n3, if_neg n6, if_neg hx1, if_neg w1]
        · have hx1 : ¬ x % 2 = 1 := fun e => n1 (by rw [e]; rfl)
          exact fin 1 (by rw [ev, if_neg n2, if_neg n3, if_neg n6, if_neg hx1, if_pos w1])
        · have hx1 : x % 2 = 1 := nI_inj (b := 1) (by omega) (by decide) e1
          exact fin 0 (by rw [ev, if_neg n2, if_neg n3, if_neg n6, if_pos hx1])
        · rcases mr.2.1 with e | e
          · rw [e]
            exact fin 0 (by rw [ev, if_neg n2, if_neg n3, if_pos w6, if_pos (mr.2.2.2.mpr e)])
          · rw [e]
            have hne : ¬ (aF A x).2.2.2.2 = -1 := fun e2 => by
              have := mr.2.2.2.mp e2
              rw [e] at this
              exact absurd this (by decide)
            exact fin 1 (by rw [ev, if_neg n2, if_neg n3, if_pos w6, if_neg hne])
        · exact use_I (m_M_struckIn hb mr fk) (s_M_sum_83 (fin _ (by rw [ev, if_neg n2, if_pos w3])))
  exact e_M_sum (s_M_sum_0 (loop (12 * A.1) 0 0 _ _ _ (by omega) (by rw [Nat.zero_add])))
theorem aF_off (hg : good A) {x : Nat} (hx : x < 48) (h : ¬ x % 12 / 2 < aR A (x / 12)) : aF A x = f0 := by
  have := hg.2.2.2.2.2.2 (x / 12) (x % 12 / 2) (x % 2) (by omega) (by omega) (by omega) (by omega)
  rw [show (x / 12 * 6 + x % 12 / 2) * 2 + x % 2 = x by omega] at this
  exact this
/-- a sum over the faces of begun rounds is a sum over all faces -/
theorem sum_rows (hg : good A) {w : Int32} {F : aFace → Nat} (h0 : F f0 = 0) (hv : ∀ x, x % 12 / 2 < aR A (x / 12) → vS A w x = F (aF A x)) : sm (vS A w) 0 (12 * A.1) = sm (fun x => F (aF A x)) 0 48 := by
  have h4 := hg.1
  have e : 48 = 12 * A.1 + (48 - 12 * A.1) := by omega
  rw [e, sm_split, sm_congr (f := vS A w) (g := fun x => F (aF A x)) ?_, sm_zero (f := fun x => F (aF A x)) (k := 0 + 12 * A.1) ?_]
  · rfl
  · intro j h1 h2
    have hz := (hg.2.2.2.2.2.1 (j / 12) (by omega) (by omega)).1
    show F (aF A j) = 0
    rw [aF_off hg (by omega) (by omega), h0]
  · intro j h1 h2
    by_cases hj : j % 12 / 2 < aR A (j / 12)
    · exact hv j hj
    · show vS A w j = F (aF A j)
      rw [aF_off hg (by omega) hj, h0, vS, if_neg hj]
/-- a sum over the rounds of set-ups -/
theorem blk12 (c : Nat → Nat) : ∀ R, R ≤ 6 → sm (fun j => if j / 2 < R then (if j % 2 = 1 then 0 else c (j / 2)) else 0) 0 12 = sm c 0 R := by
  intro R hR
  obtain rfl | rfl | rfl | rfl | rfl | rfl | rfl : R = 0 ∨ R = 1 ∨ R = 2 ∨ R = 3 ∨ R = 4 ∨ R = 5 ∨ R = 6 := by omega
  all_goals simp [sm]
theorem sum_rounds (hg : good A) {w : Int32} {c : Nat → Nat → Nat} (hv : ∀ x, x % 12 / 2 < aR A (x / 12) → vS A w x = if x % 2 = 1 then 0 else c (x / 12) (x % 12 / 2)) : ∀ n, n ≤ A.1 → sm (vS A w) 0 (12 * n) = sm (fun u => sm (c u) 0 (aR A u)) 0 n
  | 0, _ => rfl
  | n + 1, hn => by
    have h4 := hg.1
    rw [show 12 * (n + 1) = 12 * n + 12 by omega, sm_split, sm_split, sum_rounds hg hv n (by omega)]
    congr 1
    rw [Nat.zero_add, Nat.zero_add]
    have e : sm (vS A w) (12 * n) 12 = sm (fun j => if j / 2 < aR A n then (if j % 2 = 1 then 0 else c n (j / 2)) else 0) 0 12 := by
      have := sm_shift (f := vS A w) (a := 12 * n) (m := 12) (k := 0)
      rw [Nat.add_zero] at this
      rw [this]
      apply sm_congr
      intro j h1 h2
      have d1 : (12 * n + j) / 12 = n := by omega
      have d2 : (12 * n + j) % 12 / 2 = j / 2 := by omega
      have d3 : (12 * n + j) % 2 = j % 2 := by omega
      by_cases hj : j / 2 < aR A n
      · have := hv (12 * n + j) (by rw [d1, d2]; exact hj)
        rw [d1, d2, d3] at this
        rw [this, if_pos hj]
      · rw [if_neg hj, vS, if_neg (by rw [d1, d2]; exact hj)]
    rw [e, blk12 (c n) _ (hg.2.2.2.1 n (by omega)).1]
    simp [sm]
theorem sum_1 (hg : good A) : sm (vS A 1) 0 (12 * A.1) = nRounds A := by
  rw [sum_rounds hg (c := fun _ _ => 1) (fun x hx => ?_) A.1 (Nat.le_refl _)]
  · apply sm_congr
    intro u h1 h2
    have h4 := hg.1
    have h6 := (hg.2.2.2.1 u (by omega)).1
    show sm (fun _ => 1) 0 (aR A u) = aR A u
    generalize aR A u = R at *
    obtain rfl | rfl | rfl | rfl | rfl | rfl | rfl : R = 0 ∨ R = 1 ∨ R = 2 ∨ R = 3 ∨ R = 4 ∨ R = 5 ∨ R = 6 := by omega
    all_goals rfl
  · rw [vS, if_pos hx, if_neg (by decide), if_neg (by decide), if_neg (by decide), if_pos rfl]
theorem sum_4 (hg : good A) : sm (vS A 4) 0 (12 * A.1) = nBad A := by
  rw [sum_rounds hg (c := fun u r => cb (bad (GA A u) (aR A u) A.2.1 r) 6) (fun x hx => ?_) A.1 (Nat.le_refl _)]
  · rfl
  · rw [vS, if_pos hx, if_neg (by decide), if_neg (by decide), if_neg (by decide), if_neg (show ¬ (4 : Int32) = 1 by decide)]
theorem sum_2 (hg : good A) : sm (vS A 2) 0 (12 * A.1) = nPoints A := sum_rows hg (F := fun f => f.1) rfl (fun x hx => by rw [vS, if_pos hx, if_pos rfl])
theorem sum_3 (hg : good A) : sm (vS A 3) 0 (12 * A.1) = nStruck A := sum_rows hg (F := skn) rfl (fun x hx => by rw [vS, if_pos hx, if_neg (by decide), if_pos rfl])
theorem sum_6 (hg : good A) : sm (vS A 6) 0 (12 * A.1) = nClosed A := sum_rows hg (F := fun f => if f.2.2.2.2 = -1 then 0 else 1) rfl (fun x hx => by rw [vS, if_pos hx, if_neg (by decide), if_neg (by decide), if_pos rfl])
theorem M_count {x : Int32} {G : aGl} (hs : seesM (C 75) (gcur G)) (hg : good (gcur G)) (h3 : C 74 3 = nI (ghis G).1) (h7 : C 74 7 = nI (gtxt G).1) : cI (d + 13) 156 [.ref 74, .int x] C p (qCount G x) C p := by
  apply e_M_count
  apply s_M_count_0
  unfold qCount
  rw [show ((0 : Int32).toNatClampNeg) = 0 from rfl, show ((1 : Int32).toNatClampNeg) = 1 from rfl, hs.1, hs.2.1, h3, h7]
  refine ⟨fun h0 => ⟨vpi (n := 0) (by decide) (by decide), ret_I' (by rw [if_pos h0]) rfl rfl⟩, fun h0 => ?_⟩
  rw [if_neg h0]
  refine ⟨fun h1 => use_I (m_M_sum (d := d) hs hg) (s_M_count_64 (ret_I' (by rw [if_pos h1, h1, sum_1 hg]) rfl rfl)), fun h1 => ?_⟩
  rw [if_neg h1]
  refine ⟨fun h1 => use_I (m_M_sum (d := d) hs hg) (s_M_count_64 (ret_I' (by rw [if_pos h1, h1, sum_2 hg]) rfl rfl)), fun h1 => ?_⟩
  rw [if_neg h1]
  refine ⟨fun h1 => use_I (m_M_sum (d := d) hs hg) (s_M_count_64 (ret_I' (by rw [if_pos h1, h1, sum_3 hg]) rfl rfl)), fun h1 => ?_⟩
  rw [if_neg h1]
  refine ⟨fun h1 => use_I (m_M_sum (d := d) hs hg) (s_M_count_64 (ret_I' (by rw [if_pos h1, h1, sum_4 hg]) rfl rfl)), fun h1 => ?_⟩
  rw [if_neg h1]
  refine ⟨fun h1 => ⟨vpi (n := 1) (by decide) (by decide), ret_I' (by rw [if_pos h1]) rfl rfl⟩, fun h1 => ?_⟩
  rw [if_neg h1]
  refine ⟨fun h1 => use_I (m_M_sum (d := d) hs hg) (s_M_count_64 (ret_I' (by rw [if_pos h1, h1, sum_6 hg]) rfl rfl)), fun h1 => ?_⟩
  rw [if_neg h1]
  refine ⟨fun h1 => ret_I' (by rw [if_pos h1]) rfl rfl, fun h1 => ?_⟩
  rw [if_neg h1]
  exact ⟨fun h1 => ret_I' (by rw [if_pos h1]) rfl rfl, fun h1 => ret_I' (by rw [if_neg h1]) rfl rfl⟩
end
