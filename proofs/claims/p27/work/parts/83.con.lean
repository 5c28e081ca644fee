/-! THE CONSTRUCTORS: each at its fixed places; no number and no reference beyond the last cell -/
def zU (C : Nat → Nat → Int32) (N : Nat) : Prop := ∀ z, N ≤ z → C z = fun _ => 0
def zF (F : Nat → Nat → Option Nat) (N : Nat) : Prop := ∀ z, N ≤ z → F z = fun _ => none
def flC (C : Nat → Nat → Int32) (q x : Nat) (v : Int32) : Nat → Nat → Int32 := fun y i => if y = q ∧ i < x then v else C y i
theorem zU_s {C : Nat → Nat → Int32} {N : Nat} (h : zU C N) : zU C (N + 1) := fun z hz => h z (by omega)
theorem zF_s {F : Nat → Nat → Option Nat} {N : Nat} (h : zF F N) : zF F (N + 1) := fun z hz => h z (by omega)
theorem zU_u2 {C : Nat → Nat → Int32} {N i k : Nat} {x : Int32} (hi : i < N) (h : zU C N) : zU (am_u2 C i k x) N := fun z hz => by
  rw [am_u2_ne (by omega)]
  exact h z hz
theorem zU_fl {C : Nat → Nat → Int32} {N q n : Nat} {v : Int32} (hi : q < N) (h : zU C N) : zU (flC C q n v) N := fun z hz => by
  rw [← h z hz]
  funext i
  exact if_neg (by omega)
theorem zF_uF {F : Nat → Nat → Option Nat} {N i k : Nat} {x : Option Nat} (hi : i < N) (h : zF F N) : zF (am_uF F i k x) N := fun z hz => by
  rw [← h z hz]
  funext j
  exact if_neg (by omega)
theorem wN_eq {N M : Nat} {q : Nat × Nat} {C : Nat → Nat → Int32} {F : Nat → Nat → Option Nat} (hM : M = N + 1) (h1 : am_sh N = q) (h2 : zU C N) (h3 : zF F N) : am_wN ((N, am_sh, C, F) : aW) q = (M, am_sh, C, F) := by
  have e1 : am_uS am_sh N q = am_sh := by
    funext a
    unfold am_uS
    by_cases h : a = N
    · rw [if_pos h, h, h1]
    · rw [if_neg h]
  have e2 : am_uR C N (fun _ => 0) = C := by
    funext a
    unfold am_uR
    by_cases h : a = N
    · rw [if_pos h, h, h2 N (Nat.le_refl _)]
    · rw [if_neg h]
  have e3 : am_uR F N (fun _ => none) = F := by
    funext a
    unfold am_uR
    by_cases h : a = N
    · rw [if_pos h, h, h3 N (Nat.le_refl _)]
    · rw [if_neg h]
  show (N + 1, am_uS am_sh N q, am_uR C N (fun _ => 0), am_uR F N (fun _ => none)) = _
  rw [e1, e2, e3, hM]
theorem at_new {d k pc N M : Nat} {sx : Option (Nat × (Nat → Int32))} {Post : Option Value → aW → Prop} {lc : aL} {st : List Value} {q u : Nat × Nat} {C : Nat → Nat → Int32} {F : Nat → Nat → Option Nat} (hM : M = N + 1) (h1 : am_sh N = q) (h2 : zU C N) (h3 : zF F N) (h : am_At d k sx Post pc lc st ((M, am_sh, C, F) : aW) u) : am_At d k sx Post pc lc st (am_wN ((N, am_sh, C, F) : aW) q) u := by
  rw [wN_eq hM h1 h2 h3]
  exact h
theorem at_ref {d k pc N i j : Nat} {kk : Nat} {sx : Option (Nat × (Nat → Int32))} {Post : Option Value → aW → Prop} {lc : aL} {st : List Value} {u : Nat × Nat} {C : Nat → Nat → Int32} {F : Nat → Nat → Option Nat} (hF : F i kk = some j) (h : am_At d k sx Post pc lc st ((N, am_sh, C, am_uF F i kk (some j)) : aW) u) : am_At d k sx Post pc lc st ((N, am_sh, C, F) : aW) u := by
  have e : am_uF F i kk (some j) = F := by
    funext a b
    unfold am_uF
    by_cases ha : a = i
    · rw [if_pos ha]
      by_cases hb : b = kk
      · rw [if_pos hb, ha, hb, hF]
      · rw [if_neg hb]
    · rw [if_neg ha]
  rw [e] at h
  exact h
def cW (d k : Nat) (av : List Value) (w w2 : aW) : Prop := am_Call d k av w (fun r w' => r = none ∧ w' = w2)
theorem use_W {d k : Nat} {av : List Value} {w w2 : aW} {K : aW → Prop} (h : cW d k av w w2) (hk : K w2) : am_Cv d k av w K := by
  refine am_Call.mono h ?_
  rintro r w' ⟨rfl, rfl⟩
  exact hk
theorem am_ar_i {w : aW} {i t n : Nat} {f : Nat → Prop} (h1 : Nat.blt i w.1 = true) (h2 : w.2.1 i = (t + 1, n)) (h : f n) : am_ar w i t f := by
  unfold am_ar
  rw [h1, h2]
  have : Nat.beq t t = true := Nat.beq_refl t
  simp only [this]
  exact h
theorem am_alen_i {w : aW} {i t n : Nat} {f : Nat → Prop} (h1 : Nat.blt i w.1 = true) (h2 : w.2.1 i = (t + 1, n)) (h4 : Nat.blt t 4 = true) (h : f n) : am_alen w i f := by
  unfold am_alen
  rw [h1, h2]
  simp only [h4]
  exact h
theorem z_fill_0 {d q : Nat} {v : Int32} {Post : Option Value → aW → Prop} {w : aW} (h : am_alen w q (fun n => am_At (d + 1) 163 none Post 5 [some (.ref q), some (.int v), some (.int (0 : Int32)), some (.int (Int32.ofNat n))] [] w (0, 0))) : am_At (d + 1) 163 none Post 0 [some (.ref q), some (.int v), none, none] [] w (0, 0) := am_wp_ok (stops := [5]) am_k163 400 _ _ _ _ _ h
theorem z_fill_5 {d q : Nat} {v x2 x3 : Int32} {Post : Option Value → aW → Prop} {w : aW} (h : (x3 ≤ x2 → Post none w) ∧ (¬ x3 ≤ x2 → am_ar w q 1 (fun n => vp_in x2 n ∧ am_At (d + 1) 163 none Post 5 [some (.ref q), some (.int v), some (.int (x2 + 1)), some (.int x3)] [] (am_wC w (am_u2 w.2.2.1 q x2.toNatClampNeg v)) (0, 0)))) : am_At (d + 1) 163 none Post 5 [some (.ref q), some (.int v), some (.int x2), some (.int x3)] [] w (0, 0) := am_wp_ok (stops := [5]) am_k163 400 _ _ _ _ _ h
theorem flC_0 {C : Nat → Nat → Int32} {q : Nat} {v : Int32} : flC C q 0 v = C := by
  funext y i
  exact if_neg (by omega)
theorem flC_s {C : Nat → Nat → Int32} {q x : Nat} {v : Int32} : am_u2 (flC C q x v) q x v = flC C q (x + 1) v := by
  funext y i
  simp only [am_u2_at, flC]
  by_cases h : y = q ∧ i = x
  · rw [if_pos h, if_pos (by omega)]
  · rw [if_neg h]
    by_cases h2 : y = q ∧ i < x
    · rw [if_pos h2, if_pos (by omega)]
    · rw [if_neg h2, if_neg (by omega)]
theorem c_fill {d N q n : Nat} {v : Int32} {C : Nat → Nat → Int32} {F : Nat → Nat → Option Nat} (hq : q < N) (hs : am_sh q = (2, n)) (hn : n < 5000) : cW (d + 1) 163 [.ref q, .int v] (N, am_sh, C, F) (N, am_sh, flC C q n v, F) := by
  have hb : Nat.blt q N = true := by
    rw [Nat.blt_eq]
    exact hq
  have loop : ∀ j x, x + j = n → am_At (d + 1) 163 none (fun r w' => (r = none ∧ w' = ((N, am_sh, flC C q n v, F) : aW)) ∧ w'.1 = N + mC 163) 5 [some (.ref q), some (.int v), some (.int (nI x)), some (.int (nI n))] [] ((N, am_sh, flC C q x v, F) : aW) (0, 0) := by
    intro j
    induction j with
    | zero =>
      intro x hx
      have e : x = n := by omega
      subst e
      refine z_fill_5 ⟨fun _ => ⟨⟨rfl, rfl⟩, rfl⟩, fun h => absurd (Int32.le_refl _) h⟩
    | succ j ih =>
      intro x hx
      refine z_fill_5 ⟨fun h => absurd ((le5 (by omega) (by omega)).mp h) (by omega), fun _ => am_ar_i hb hs ⟨vpi (by omega) hn, ?_⟩⟩
      rw [cl (by omega), nI_1]
      show am_At _ _ _ _ _ _ _ ((N, am_sh, am_u2 (flC C q x v) q x v, F) : aW) _
      rw [flC_s]
      exact ih (x + 1) (by omega)
  refine am_meth (am_plain (by decide +kernel)) rfl (Nat.le_of_ble_eq_true rfl) ?_
  have h0 := loop n 0 (by omega)
  rw [flC_0] at h0
  exact z_fill_0 (am_alen_i hb hs (by decide) h0)
def stC (C : Nat → Nat → Int32) (i : Nat) : Nat → Nat → Int32 := flC (flC (am_u2 (am_u2 C i 0 0) i 1 20) (i + 4) 6 100) (i + 6) 48 (-1)
def stF (F : Nat → Nat → Option Nat) (i : Nat) : Nat → Nat → Option Nat := am_uF (am_uF (am_uF (am_uF (am_uF (am_uF (am_uF (am_uF (am_uF (am_uF (am_uF F i 2 (some (i + 1))) i 3 (some (i + 2))) i 4 (some (i + 3))) i 5 (some (i + 4))) i 6 (some (i + 5))) i 7 (some (i + 6))) i 8 (some (i + 7))) i 9 (some (i + 8))) i 5 (some (i + 4))) i 10 (some (i + 9))) i 7 (some (i + 6))
theorem zU_st {C : Nat → Nat → Int32} {i : Nat} (h : zU C (i + 1)) : zU (stC C i) (i + 10) := zU_fl (by omega) (zU_fl (by omega) (zU_u2 (by omega) (zU_u2 (by omega) (fun z hz => h z (by omega)))))
theorem zF_st {F : Nat → Nat → Option Nat} {i : Nat} (h : zF F (i + 1)) : zF (stF F i) (i + 10) := zF_uF (by omega) (zF_uF (by omega) (zF_uF (by omega) (zF_uF (by omega) (zF_uF (by omega) (zF_uF (by omega) (zF_uF (by omega) (zF_uF (by omega) (zF_uF (by omega) (zF_uF (by omega) (zF_uF (by omega) (fun z hz => h z (by omega))))))))))))

set_option maxRecDepth 100000 in
theorem z_S1_0_2 {d : Nat} {Post : Option Value → aW → Prop} {C : Nat → Nat → Int32} {F : Nat → Nat → Option Nat} (h : (4 : Int32) = (4 : Int32) ∧ (am_At (d + 1) 30 none Post 19 [some (.ref 1)] [.ref 2, .ref 1] (am_wN ((2, am_sh, (am_u2 (am_u2 C 1 0 (0 : Int32)) 1 1 (20 : Int32)), F) : aW) (2, 4)) (1, 4))) : am_At (d + 1) 30 none Post 0 [some (.ref 1)] [] ((2, am_sh, C, F) : aW) (0, 0) := am_wp_ok (stops := [19, 26, 33, 41, 49, 57, 66, 75, 84, 96, 104]) am_k30 400 _ _ _ _ _ h
set_option maxRecDepth 100000 in
theorem z_S1_19_3 {d : Nat} {Post : Option Value → aW → Prop} {C : Nat → Nat → Int32} {F : Nat → Nat → Option Nat} (h : (4 : Int32) = (4 : Int32) ∧ (am_At (d + 1) 30 none Post 26 [some (.ref 1)] [.ref 3, .ref 1] (am_wN ((3, am_sh, C, (am_uF F 1 2 (some 2))) : aW) (2, 4)) (2, 8))) : am_At (d + 1) 30 none Post 19 [some (.ref 1)] [.ref 2, .ref 1] ((3, am_sh, C, F) : aW) (1, 4) := am_wp_ok (stops := [19, 26, 33, 41, 49, 57, 66, 75, 84, 96, 104]) am_k30 400 _ _ _ _ _ h
set_option maxRecDepth 100000 in
theorem z_S1_26_4 {d : Nat} {Post : Option Value → aW → Prop} {C : Nat → Nat → Int32} {F : Nat → Nat → Option Nat} (h : (4 : Int32) = (4 : Int32) ∧ (am_At (d + 1) 30 none Post 33 [some (.ref 1)] [.ref 4, .ref 1] (am_wN ((4, am_sh, C, (am_uF F 1 3 (some 3))) : aW) (2, 4)) (3, 12))) : am_At (d + 1) 30 none Post 26 [some (.ref 1)] [.ref 3, .ref 1] ((4, am_sh, C, F) : aW) (2, 8) := am_wp_ok (stops := [19, 26, 33, 41, 49, 57, 66, 75, 84, 96, 104]) am_k30 400 _ _ _ _ _ h
set_option maxRecDepth 100000 in
theorem z_S1_33_5 {d : Nat} {Post : Option Value → aW → Prop} {C : Nat → Nat → Int32} {F : Nat → Nat → Option Nat} (h : (6 : Int32) = (6 : Int32) ∧ (am_At (d + 1) 30 none Post 41 [some (.ref 1)] [.ref 5, .ref 1] (am_wN ((5, am_sh, C, (am_uF F 1 4 (some 4))) : aW) (2, 6)) (4, 18))) : am_At (d + 1) 30 none Post 33 [some (.ref 1)] [.ref 4, .ref 1] ((5, am_sh, C, F) : aW) (3, 12) := am_wp_ok (stops := [19, 26, 33, 41, 49, 57, 66, 75, 84, 96, 104]) am_k30 400 _ _ _ _ _ h
set_option maxRecDepth 100000 in
theorem z_S1_41_6 {d : Nat} {Post : Option Value → aW → Prop} {C : Nat → Nat → Int32} {F : Nat → Nat → Option Nat} (h : (48 : Int32) = (48 : Int32) ∧ (am_At (d + 1) 30 none Post 49 [some (.ref 1)] [.ref 6, .ref 1] (am_wN ((6, am_sh, C, (am_uF F 1 5 (some 5))) : aW) (2, 48)) (5, 66))) : am_At (d + 1) 30 none Post 41 [some (.ref 1)] [.ref 5, .ref 1] ((6, am_sh, C, F) : aW) (4, 18) := am_wp_ok (stops := [19, 26, 33, 41, 49, 57, 66, 75, 84, 96, 104]) am_k30 400 _ _ _ _ _ h
set_option maxRecDepth 100000 in
theorem z_S1_49_7 {d : Nat} {Post : Option Value → aW → Prop} {C : Nat → Nat → Int32} {F : Nat → Nat → Option Nat} (h : (48 : Int32) = (48 : Int32) ∧ (am_At (d + 1) 30 none Post 57 [some (.ref 1)] [.ref 7, .ref 1] (am_wN ((7, am_sh, C, (am_uF F 1 6 (some 6))) : aW) (2, 48)) (6, 114))) : am_At (d + 1) 30 none Post 49 [some (.ref 1)] [.ref 6, .ref 1] ((7, am_sh, C, F) : aW) (5, 66) := am_wp_ok (stops := [19, 26, 33, 41, 49, 57, 66, 75, 84, 96, 104]) am_k30 400 _ _ _ _ _ h
set_option maxRecDepth 100000 in
theorem z_S1_57_8 {d : Nat} {Post : Option Value → aW → Prop} {C : Nat → Nat → Int32} {F : Nat → Nat → Option Nat} (h : (288 : Int32) = (288 : Int32) ∧ (am_At (d + 1) 30 none Post 66 [some (.ref 1)] [.ref 8, .ref 1] (am_wN ((8, am_sh, C, (am_uF F 1 7 (some 7))) : aW) (2, 288)) (7, 402))) : am_At (d + 1) 30 none Post 57 [some (.ref 1)] [.ref 7, .ref 1] ((8, am_sh, C, F) : aW) (6, 114) := am_wp_ok (stops := [19, 26, 33, 41, 49, 57, 66, 75, 84, 96, 104]) am_k30 400 _ _ _ _ _ h
set_option maxRecDepth 100000 in
theorem z_S1_66_9 {d : Nat} {Post : Option Value → aW → Prop} {C : Nat → Nat → Int32} {F : Nat → Nat → Option Nat} (h : (288 : Int32) = (288 : Int32) ∧ (am_At (d + 1) 30 none Post 75 [some (.ref 1)] [.ref 9, .ref 1] (am_wN ((9, am_sh, C, (am_uF F 1 8 (some 8))) : aW) (2, 288)) (8, 690))) : am_At (d + 1) 30 none Post 66 [some (.ref 1)] [.ref 8, .ref 1] ((9, am_sh, C, F) : aW) (7, 402) := am_wp_ok (stops := [19, 26, 33, 41, 49, 57, 66, 75, 84, 96, 104]) am_k30 400 _ _ _ _ _ h
set_option maxRecDepth 100000 in
theorem z_S1_75_10 {d : Nat} {Post : Option Value → aW → Prop} {C : Nat → Nat → Int32} {F : Nat → Nat → Option Nat} (h : (288 : Int32) = (288 : Int32) ∧ (am_At (d + 1) 30 none Post 84 [some (.ref 1)] [.ref 10, .ref 1] (am_wN ((10, am_sh, C, (am_uF F 1 9 (some 9))) : aW) (3, 288)) (9, 978))) : am_At (d + 1) 30 none Post 75 [some (.ref 1)] [.ref 9, .ref 1] ((10, am_sh, C, F) : aW) (8, 690) := am_wp_ok (stops := [19, 26, 33, 41, 49, 57, 66, 75, 84, 96, 104]) am_k30 400 _ _ _ _ _ h
set_option maxRecDepth 100000 in
theorem z_S1_84_11 {d : Nat} {Post : Option Value → aW → Prop} {C : Nat → Nat → Int32} {F : Nat → Nat → Option Nat} (h : am_Cv d 163 [.ref 5, .int (100 : Int32)] ((11, am_sh, C, (am_uF (am_uF F 1 5 (some 5)) 1 10 (some 10))) : aW) (fun w1 => am_At (d + 1) 30 none Post 96 [some (.ref 1)] [] w1 (9, 978))) : am_At (d + 1) 30 none Post 84 [some (.ref 1)] [.ref 10, .ref 1] ((11, am_sh, C, (am_uF F 1 5 (some 5))) : aW) (9, 978) := am_wp_ok (stops := [19, 26, 33, 41, 49, 57, 66, 75, 84, 96, 104]) am_k30 400 _ _ _ _ _ h
set_option maxRecDepth 100000 in
theorem z_S1_96_11 {d : Nat} {Post : Option Value → aW → Prop} {C : Nat → Nat → Int32} {F : Nat → Nat → Option Nat} (h : am_Cv d 163 [.ref 7, .int (-1 : Int32)] ((11, am_sh, C, (am_uF F 1 7 (some 7))) : aW) (fun w1 => am_At (d + 1) 30 none Post 104 [some (.ref 1)] [] w1 (9, 978))) : am_At (d + 1) 30 none Post 96 [some (.ref 1)] [] ((11, am_sh, C, (am_uF F 1 7 (some 7))) : aW) (9, 978) := am_wp_ok (stops := [19, 26, 33, 41, 49, 57, 66, 75, 84, 96, 104]) am_k30 400 _ _ _ _ _ h
set_option maxRecDepth 100000 in
theorem z_S1_104_11 {d : Nat} {Post : Option Value → aW → Prop} {C : Nat → Nat → Int32} {F : Nat → Nat → Option Nat} (h : Post none ((11, am_sh, C, F) : aW)) : am_At (d + 1) 30 none Post 104 [some (.ref 1)] [] ((11, am_sh, C, F) : aW) (9, 978) := am_wp_ok (stops := [19, 26, 33, 41, 49, 57, 66, 75, 84, 96, 104]) am_k30 400 _ _ _ _ _ h
theorem c_S1 {d : Nat} {C : Nat → Nat → Int32} {F : Nat → Nat → Option Nat} (hC : zU C 2) (hF : zF F 2) : cW (d + 2) 30 [.ref 1] (2, am_sh, C, F) (11, am_sh, stC C 1, stF F 1) := by
  refine am_meth (am_plain (by decide +kernel)) rfl (by decide) ?_
  refine z_S1_0_2 ?_
  refine ⟨rfl, ?_⟩
  refine at_new (M := 3) rfl rfl (zU_u2 (by decide) (zU_u2 (by decide) hC)) hF ?_
  refine z_S1_19_3 ?_
  refine ⟨rfl, ?_⟩
  refine at_new (M := 4) rfl rfl (zU_s (zU_u2 (by decide) (zU_u2 (by decide) hC))) (zF_uF (by decide) (zF_s hF)) ?_
  refine z_S1_26_4 ?_
  refine ⟨rfl, ?_⟩
  refine at_new (M := 5) rfl rfl (zU_s (zU_s (zU_u2 (by decide) (zU_u2 (by decide) hC)))) (zF_uF (by decide) (zF_s (zF_uF (by decide) (zF_s hF)))) ?_
  refine z_S1_33_5 ?_
  refine ⟨rfl, ?_⟩
  refine at_new (M := 6) rfl rfl (zU_s (zU_s (zU_s (zU_u2 (by decide) (zU_u2 (by decide) hC))))) (zF_uF (by decide) (zF_s (zF_uF (by decide) (zF_s (zF_uF (by decide) (zF_s hF)))))) ?_
  refine z_S1_41_6 ?_
  refine ⟨rfl, ?_⟩
  refine at_new (M := 7) rfl rfl (zU_s (zU_s (zU_s (zU_s (zU_u2 (by decide) (zU_u2 (by decide) hC)))))) (zF_uF (by decide) (zF_s (zF_uF (by decide) (zF_s (zF_uF (by decide) (zF_s (zF_uF (by decide) (zF_s hF)))))))) ?_
  refine z_S1_49_7 ?_
  refine ⟨rfl, ?_⟩
  refine at_new (M := 8) rfl rfl (zU_s (zU_s (zU_s (zU_s (zU_s (zU_u2 (by decide) (zU_u2 (by decide) hC))))))) (zF_uF (by decide) (zF_s (zF_uF (by decide) (zF_s (zF_uF (by decide) (zF_s (zF_uF (by decide) (zF_s (zF_uF (by decide) (zF_s hF)))))))))) ?_
  refine z_S1_57_8 ?_
  refine ⟨rfl, ?_⟩
  refine at_new (M := 9) rfl rfl (zU_s (zU_s (zU_s (zU_s (zU_s (zU_s (zU_u2 (by decide) (zU_u2 (by decide) hC)))))))) (zF_uF (by decide) (zF_s (zF_uF (by decide) (zF_s (zF_uF (by decide) (zF_s (zF_uF (by decide) (zF_s (zF_uF (by decide) (zF_s (zF_uF (by decide) (zF_s hF)))))))))))) ?_
  refine z_S1_66_9 ?_
  refine ⟨rfl, ?_⟩
  refine at_new (M := 10) rfl rfl (zU_s (zU_s (zU_s (zU_s (zU_s (zU_s (zU_s (zU_u2 (by decide) (zU_u2 (by decide) hC))))))))) (zF_uF (by decide) (zF_s (zF_uF (by decide) (zF_s (zF_uF (by decide) (zF_s (zF_uF (by decide) (zF_s (zF_uF (by decide) (zF_s (zF_uF (by decide) (zF_s (zF_uF (by decide) (zF_s hF)))))))))))))) ?_
  refine z_S1_75_10 ?_
  refine ⟨rfl, ?_⟩
  refine at_new (M := 11) rfl rfl (zU_s (zU_s (zU_s (zU_s (zU_s (zU_s (zU_s (zU_s (zU_u2 (by decide) (zU_u2 (by decide) hC)))))))))) (zF_uF (by decide) (zF_s (zF_uF (by decide) (zF_s (zF_uF (by decide) (zF_s (zF_uF (by decide) (zF_s (zF_uF (by decide) (zF_s (zF_uF (by decide) (zF_s (zF_uF (by decide) (zF_s (zF_uF (by decide) (zF_s hF)))))))))))))))) ?_
  refine at_ref (i := 1) (kk := 5) (j := 5) rfl ?_
  refine z_S1_84_11 ?_
  refine use_W (c_fill (q := 5) (n := 6) (by decide) rfl (by decide)) ?_
  refine at_ref (i := 1) (kk := 7) (j := 7) rfl ?_
  refine z_S1_96_11 ?_
  refine use_W (c_fill (q := 7) (n := 48) (by decide) rfl (by decide)) ?_
  refine z_S1_104_11 ?_
  exact ⟨⟨rfl, rfl⟩, rfl⟩
theorem zU_S1 {C : Nat → Nat → Int32} (h : zU C 2) : zU (stC C 1) 11 := zU_st h
theorem zF_S1 {F : Nat → Nat → Option Nat} (h : zF F 2) : zF (stF F 1) 11 := zF_st h
set_option maxRecDepth 100000 in
theorem z_S11_0_12 {d : Nat} {Post : Option Value → aW → Prop} {C : Nat → Nat → Int32} {F : Nat → Nat → Option Nat} (h : (4 : Int32) = (4 : Int32) ∧ (am_At (d + 1) 30 none Post 19 [some (.ref 11)] [.ref 12, .ref 11] (am_wN ((12, am_sh, (am_u2 (am_u2 C 11 0 (0 : Int32)) 11 1 (20 : Int32)), F) : aW) (2, 4)) (1, 4))) : am_At (d + 1) 30 none Post 0 [some (.ref 11)] [] ((12, am_sh, C, F) : aW) (0, 0) := am_wp_ok (stops := [19, 26, 33, 41, 49, 57, 66, 75, 84, 96, 104]) am_k30 400 _ _ _ _ _ h
set_option maxRecDepth 100000 in
theorem z_S11_19_13 {d : Nat} {Post : Option Value → aW → Prop} {C : Nat → Nat → Int32} {F : Nat → Nat → Option Nat} (h : (4 : Int32) = (4 : Int32) ∧ (am_At (d + 1) 30 none Post 26 [some (.ref 11)] [.ref 13, .ref 11] (am_wN ((13, am_sh, C, (am_uF F 11 2 (some 12))) : aW) (2, 4)) (2, 8))) : am_At (d + 1) 30 none Post 19 [some (.ref 11)] [.ref 12, .ref 11] ((13, am_sh, C, F) : aW) (1, 4) := am_wp_ok (stops := [19, 26, 33, 41, 49, 57, 66, 75, 84, 96, 104]) am_k30 400 _ _ _ _ _ h
set_option maxRecDepth 100000 in
theorem z_S11_26_14 {d : Nat} {Post : Option Value → aW → Prop} {C : Nat → Nat → Int32} {F : Nat → Nat → Option Nat} (h : (4 : Int32) = (4 : Int32) ∧ (am_At (d + 1) 30 none Post 33 [some (.ref 11)] [.ref 14, .ref 11] (am_wN ((14, am_sh, C, (am_uF F 11 3 (some 13))) : aW) (2, 4)) (3, 12))) : am_At (d + 1) 30 none Post 26 [some (.ref 11)] [.ref 13, .ref 11] ((14, am_sh, C, F) : aW) (2, 8) := am_wp_ok (stops := [19, 26, 33, 41, 49, 57, 66, 75, 84, 96, 104]) am_k30 400 _ _ _ _ _ h
set_option maxRecDepth 100000 in
theorem z_S11_33_15 {d : Nat} {Post : Option Value → aW → Prop} {C : Nat → Nat → Int32} {F : Nat → Nat → Option Nat} (h : (6 : Int32) = (6 : Int32) ∧ (am_At (d + 1) 30 none Post 41 [some (.ref 11)] [.ref 15, .ref 11] (am_wN ((15, am_sh, C, (am_uF F 11 4 (some 14))) : aW) (2, 6)) (4, 18))) : am_At (d + 1) 30 none Post 33 [some (.ref 11)] [.ref 14, .ref 11] ((15, am_sh, C, F) : aW) (3, 12) := am_wp_ok (stops := [19, 26, 33, 41, 49, 57, 66, 75, 84, 96, 104]) am_k30 400 _ _ _ _ _ h
set_option maxRecDepth 100000 in
theorem z_S11_41_16 {d : Nat} {Post : Option Value → aW → Prop} {C : Nat → Nat → Int32} {F : Nat → Nat → Option Nat} (h : (48 : Int32) = (48 : Int32) ∧ (am_At (d + 1) 30 none Post 49 [some (.ref 11)] [.ref 16, .ref 11] (am_wN ((16, am_sh, C, (am_uF F 11 5 (some 15))) : aW) (2, 48)) (5, 66))) : am_At (d + 1) 30 none Post 41 [some (.ref 11)] [.ref 15, .ref 11] ((16, am_sh, C, F) : aW) (4, 18) := am_wp_ok (stops := [19, 26, 33, 41, 49, 57, 66, 75, 84, 96, 104]) am_k30 400 _ _ _ _ _ h
set_option maxRecDepth 100000 in
theorem z_S11_49_17 {d : Nat} {Post : Option Value → aW → Prop} {C : Nat → Nat → Int32} {F : Nat → Nat → Option Nat} (h : (48 : Int32) = (48 : Int32) ∧ (am_At (d + 1) 30 none Post 57 [some (.ref 11)] [.ref 17, .ref 11] (am_wN ((17, am_sh, C, (am_uF F 11 6 (some 16))) : aW) (2, 48)) (6, 114))) : am_At (d + 1) 30 none Post 49 [some (.ref 11)] [.ref 16, .ref 11] ((17, am_sh, C, F) : aW) (5, 66) := am_wp_ok (stops := [19, 26, 33, 41, 49, 57, 66, 75, 84, 96, 104]) am_k30 400 _ _ _ _ _ h
set_option maxRecDepth 100000 in
theorem z_S11_57_18 {d : Nat} {Post : Option Value → aW → Prop} {C : Nat → Nat → Int32} {F : Nat → Nat → Option Nat} (h : (288 : Int32) = (288 : Int32) ∧ (am_At (d + 1) 30 none Post 66 [some (.ref 11)] [.ref 18, .ref 11] (am_wN ((18, am_sh, C, (am_uF F 11 7 (some 17))) : aW) (2, 288)) (7, 402))) : am_At (d + 1) 30 none Post 57 [some (.ref 11)] [.ref 17, .ref 11] ((18, am_sh, C, F) : aW) (6, 114) := am_wp_ok (stops := [19, 26, 33, 41, 49, 57, 66, 75, 84, 96, 104]) am_k30 400 _ _ _ _ _ h
set_option maxRecDepth 100000 in
theorem z_S11_66_19 {d : Nat} {Post : Option Value → aW → Prop} {C : Nat → Nat → Int32} {F : Nat → Nat → Option Nat} (h : (288 : Int32) = (288 : Int32) ∧ (am_At (d + 1) 30 none Post 75 [some (.ref 11)] [.ref 19, .ref 11] (am_wN ((19, am_sh, C, (am_uF F 11 8 (some 18))) : aW) (2, 288)) (8, 690))) : am_At (d + 1) 30 none Post 66 [some (.ref 11)] [.ref 18, .ref 11] ((19, am_sh, C, F) : aW) (7, 402) := am_wp_ok (stops := [19, 26, 33, 41, 49, 57, 66, 75, 84, 96, 104]) am_k30 400 _ _ _ _ _ h
set_option maxRecDepth 100000 in
theorem z_S11_75_20 {d : Nat} {Post : Option Value → aW → Prop} {C : Nat → Nat → Int32} {F : Nat → Nat → Option Nat} (h : (288 : Int32) = (288 : Int32) ∧ (am_At (d + 1) 30 none Post 84 [some (.ref 11)] [.ref 20, .ref 11] (am_wN ((20, am_sh, C, (am_uF F 11 9 (some 19))) : aW) (3, 288)) (9, 978))) : am_At (d + 1) 30 none Post 75 [some (.ref 11)] [.ref 19, .ref 11] ((20, am_sh, C, F) : aW) (8, 690) := am_wp_ok (stops := [19, 26, 33, 41, 49, 57, 66, 75, 84, 96, 104]) am_k30 400 _ _ _ _ _ h
set_option maxRecDepth 100000 in
theorem z_S11_84_21 {d : Nat} {Post : Option Value → aW → Prop} {C : Nat → Nat → Int32} {F : Nat → Nat → Option Nat} (h : am_Cv d 163 [.ref 15, .int (100 : Int32)] ((21, am_sh, C, (am_uF (am_uF F 11 5 (some 15)) 11 10 (some 20))) : aW) (fun w1 => am_At (d + 1) 30 none Post 96 [some (.ref 11)] [] w1 (9, 978))) : am_At (d + 1) 30 none Post 84 [some (.ref 11)] [.ref 20, .ref 11] ((21, am_sh, C, (am_uF F 11 5 (some 15))) : aW) (9, 978) := am_wp_ok (stops := [19, 26, 33, 41, 49, 57, 66, 75, 84, 96, 104]) am_k30 400 _ _ _ _ _ h
set_option maxRecDepth 100000 in
theorem z_S11_96_21 {d : Nat} {Post : Option Value → aW → Prop} {C : Nat → Nat → Int32} {F : Nat → Nat → Option Nat} (h : am_Cv d 163 [.ref 17, .int (-1 : Int32)] ((21, am_sh, C, (am_uF F 11 7 (some 17))) : aW) (fun w1 => am_At (d + 1) 30 none Post 104 [some (.ref 11)] [] w1 (9, 978))) : am_At (d + 1) 30 none Post 96 [some (.ref 11)] [] ((21, am_sh, C, (am_uF F 11 7 (some 17))) : aW) (9, 978) := am_wp_ok (stops := [19, 26, 33, 41, 49, 57, 66, 75, 84, 96, 104]) am_k30 400 _ _ _ _ _ h
set_option maxRecDepth 100000 in
theorem z_S11_104_21 {d : Nat} {Post : Option Value → aW → Prop} {C : Nat → Nat → Int32} {F : Nat → Nat → Option Nat} (h : Post none ((21, am_sh, C, F) : aW)) : am_At (d + 1) 30 none Post 104 [some (.ref 11)] [] ((21, am_sh, C, F) : aW) (9, 978) := am_wp_ok (stops := [19, 26, 33, 41, 49, 57, 66, 75, 84, 96, 104]) am_k30 400 _ _ _ _ _ h
theorem c_S11 {d : Nat} {C : Nat → Nat → Int32} {F : Nat → Nat → Option Nat} (hC : zU C 12) (hF : zF F 12) : cW (d + 2) 30 [.ref 11] (12, am_sh, C, F) (21, am_sh, stC C 11, stF F 11) := by
  refine am_meth (am_plain (by decide +kernel)) rfl (by decide) ?_
  refine z_S11_0_12 ?_
  refine ⟨rfl, ?_⟩
  refine at_new (M := 13) rfl rfl (zU_u2 (by decide) (zU_u2 (by decide) hC)) hF ?_
  refine z_S11_19_13 ?_
  refine ⟨rfl, ?_⟩
  refine at_new (M := 14) rfl rfl (zU_s (zU_u2 (by decide) (zU_u2 (by decide) hC))) (zF_uF (by decide) (zF_s hF)) ?_
  refine z_S11_26_14 ?_
  refine ⟨rfl, ?_⟩
  refine at_new (M := 15) rfl rfl (zU_s (zU_s (zU_u2 (by decide) (zU_u2 (by decide) hC)))) (zF_uF (by decide) (zF_s (zF_uF (by decide) (zF_s hF)))) ?_
  refine z_S11_33_15 ?_
  refine ⟨rfl, ?_⟩
  refine at_new (M := 16) rfl rfl (zU_s (zU_s (zU_s (zU_u2 (by decide) (zU_u2 (by decide) hC))))) (zF_uF (by decide) (zF_s (zF_uF (by decide) (zF_s (zF_uF (by decide) (zF_s hF)))))) ?_
  refine z_S11_41_16 ?_
  refine ⟨rfl, ?_⟩
  refine at_new (M := 17) rfl rfl (zU_s (zU_s (zU_s (zU_s (zU_u2 (by decide) (zU_u2 (by decide) hC)))))) (zF_uF (by decide) (zF_s (zF_uF (by decide) (zF_s (zF_uF (by decide) (zF_s (zF_uF (by decide) (zF_s hF)))))))) ?_
  refine z_S11_49_17 ?_
  refine ⟨rfl, ?_⟩
  refine at_new (M := 18) rfl rfl (zU_s (zU_s (zU_s (zU_s (zU_s (zU_u2 (by decide) (zU_u2 (by decide) hC))))))) (zF_uF (by decide) (zF_s (zF_uF (by decide) (zF_s (zF_uF (by decide) (zF_s (zF_uF (by decide) (zF_s (zF_uF (by decide) (zF_s hF)))))))))) ?_
  refine z_S11_57_18 ?_
  refine ⟨rfl, ?_⟩
  refine at_new (M := 19) rfl rfl (zU_s (zU_s (zU_s (zU_s (zU_s (zU_s (zU_u2 (by decide) (zU_u2 (by decide) hC)))))))) (zF_uF (by decide) (zF_s (zF_uF (by decide) (zF_s (zF_uF (by decide) (zF_s (zF_uF (by decide) (zF_s (zF_uF (by decide) (zF_s (zF_uF (by decide) (zF_s hF)))))))))))) ?_
  refine z_S11_66_19 ?_
  refine ⟨rfl, ?_⟩
  refine at_new (M := 20) rfl rfl (zU_s (zU_s (zU_s (zU_s (zU_s (zU_s (zU_s (zU_u2 (by decide) (zU_u2 (by decide) hC))))))))) (zF_uF (by decide) (zF_s (zF_uF (by decide) (zF_s (zF_uF (by decide) (zF_s (zF_uF (by decide) (zF_s (zF_uF (by decide) (zF_s (zF_uF (by decide) (zF_s (zF_uF (by decide) (zF_s hF)))))))))))))) ?_
  refine z_S11_75_20 ?_
  refine ⟨rfl, ?_⟩
  refine at_new (M := 21) rfl rfl (zU_s (zU_s (zU_s (zU_s (zU_s (zU_s (zU_s (zU_s (zU_u2 (by decide) (zU_u2 (by decide) hC)))))))))) (zF_uF (by decide) (zF_s (zF_uF (by decide) (zF_s (zF_uF (by decide) (zF_s (zF_uF (by decide) (zF_s (zF_uF (by decide) (zF_s (zF_uF (by decide) (zF_s (zF_uF (by decide) (zF_s (zF_uF (by decide) (zF_s hF)))))))))))))))) ?_
  refine at_ref (i := 11) (kk := 5) (j := 15) rfl ?_
  refine z_S11_84_21 ?_
  refine use_W (c_fill (q := 15) (n := 6) (by decide) rfl (by decide)) ?_
  refine at_ref (i := 11) (kk := 7) (j := 17) rfl ?_
  refine z_S11_96_21 ?_
  refine use_W (c_fill (q := 17) (n := 48) (by decide) rfl (by decide)) ?_
  refine z_S11_104_21 ?_
  exact ⟨⟨rfl, rfl⟩, rfl⟩
theorem zU_S11 {C : Nat → Nat → Int32} (h : zU C 12) : zU (stC C 11) 21 := zU_st h
theorem zF_S11 {F : Nat → Nat → Option Nat} (h : zF F 12) : zF (stF F 11) 21 := zF_st h
set_option maxRecDepth 100000 in
theorem z_S23_0_24 {d : Nat} {Post : Option Value → aW → Prop} {C : Nat → Nat → Int32} {F : Nat → Nat → Option Nat} (h : (4 : Int32) = (4 : Int32) ∧ (am_At (d + 1) 30 none Post 19 [some (.ref 23)] [.ref 24, .ref 23] (am_wN ((24, am_sh, (am_u2 (am_u2 C 23 0 (0 : Int32)) 23 1 (20 : Int32)), F) : aW) (2, 4)) (1, 4))) : am_At (d + 1) 30 none Post 0 [some (.ref 23)] [] ((24, am_sh, C, F) : aW) (0, 0) := am_wp_ok (stops := [19, 26, 33, 41, 49, 57, 66, 75, 84, 96, 104]) am_k30 400 _ _ _ _ _ h
set_option maxRecDepth 100000 in
theorem z_S23_19_25 {d : Nat} {Post : Option Value → aW → Prop} {C : Nat → Nat → Int32} {F : Nat → Nat → Option Nat} (h : (4 : Int32) = (4 : Int32) ∧ (am_At (d + 1) 30 none Post 26 [some (.ref 23)] [.ref 25, .ref 23] (am_wN ((25, am_sh, C, (am_uF F 23 2 (some 24))) : aW) (2, 4)) (2, 8))) : am_At (d + 1) 30 none Post 19 [some (.ref 23)] [.ref 24, .ref 23] ((25, am_sh, C, F) : aW) (1, 4) := am_wp_ok (stops := [19, 26, 33, 41, 49, 57, 66, 75, 84, 96, 104]) am_k30 400 _ _ _ _ _ h
set_option maxRecDepth 100000 in
theorem z_S23_26_26 {d : Nat} {Post : Option Value → aW → Prop} {C : Nat → Nat → Int32} {F : Nat → Nat → Option Nat} (h : (4 : Int32) = (4 : Int32) ∧ (am_At (d + 1) 30 none Post 33 [some (.ref 23)] [.ref 26, .ref 23] (am_wN ((26, am_sh, C, (am_uF F 23 3 (some 25))) : aW) (2, 4)) (3, 12))) : am_At (d + 1) 30 none Post 26 [some (.ref 23)] [.ref 25, .ref 23] ((26, am_sh, C, F) : aW) (2, 8) := am_wp_ok (stops := [19, 26, 33, 41, 49, 57, 66, 75, 84, 96, 104]) am_k30 400 _ _ _ _ _ h
set_option maxRecDepth 100000 in
theorem z_S23_33_27 {d : Nat} {Post : Option Value → aW → Prop} {C : Nat → Nat → Int32} {F : Nat → Nat → Option Nat} (h : (6 : Int32) = (6 : Int32) ∧ (am_At (d + 1) 30 none Post 41 [some (.ref 23)] [.ref 27, .ref 23] (am_wN ((27, am_sh, C, (am_uF F 23 4 (some 26))) : aW) (2, 6)) (4, 18))) : am_At (d + 1) 30 none Post 33 [some (.ref 23)] [.ref 26, .ref 23] ((27, am_sh, C, F) : aW) (3, 12) := am_wp_ok (stops := [19, 26, 33, 41, 49, 57, 66, 75, 84, 96, 104]) am_k30 400 _ _ _ _ _ h
set_option maxRecDepth 100000 in
theorem z_S23_41_28 {d : Nat} {Post : Option Value → aW → Prop} {C : Nat → Nat → Int32} {F : Nat → Nat → Option Nat} (h : (48 : Int32) = (48 : Int32) ∧ (am_At (d + 1) 30 none Post 49 [some (.ref 23)] [.ref 28, .ref 23] (am_wN ((28, am_sh, C, (am_uF F 23 5 (some 27))) : aW) (2, 48)) (5, 66))) : am_At (d + 1) 30 none Post 41 [some (.ref 23)] [.ref 27, .ref 23] ((28, am_sh, C, F) : aW) (4, 18) := am_wp_ok (stops := [19, 26, 33, 41, 49, 57, 66, 75, 84, 96, 104]) am_k30 400 _ _ _ _ _ h
set_option maxRecDepth 100000 in
theorem z_S23_49_29 {d : Nat} {Post : Option Value → aW → Prop} {C : Nat → Nat → Int32} {F : Nat → Nat → Option Nat} (h : (48 : Int32) = (48 : Int32) ∧ (am_At (d + 1) 30 none Post 57 [some (.ref 23)] [.ref 29, .ref 23] (am_wN ((29, am_sh, C, (am_uF F 23 6 (some 28))) : aW) (2, 48)) (6, 114))) : am_At (d + 1) 30 none Post 49 [some (.ref 23)] [.ref 28, .ref 23] ((29, am_sh, C, F) : aW) (5, 66) := am_wp_ok (stops := [19, 26, 33, 41, 49, 57, 66, 75, 84, 96, 104]) am_k30 400 _ _ _ _ _ h
set_option maxRecDepth 100000 in
theorem z_S23_57_30 {d : Nat} {Post : Option Value → aW → Prop} {C : Nat → Nat → Int32} {F : Nat → Nat → Option Nat} (h : (288 : Int32) = (288 : Int32) ∧ (am_At (d + 1) 30 none Post 66 [some (.ref 23)] [.ref 30, .ref 23] (am_wN ((30, am_sh, C, (am_uF F 23 7 (some 29))) : aW) (2, 288)) (7, 402))) : am_At (d + 1) 30 none Post 57 [some (.ref 23)] [.ref 29, .ref 23] ((30, am_sh, C, F) : aW) (6, 114) := am_wp_ok (stops := [19, 26, 33, 41, 49, 57, 66, 75, 84, 96, 104]) am_k30 400 _ _ _ _ _ h
set_option maxRecDepth 100000 in
theorem z_S23_66_31 {d : Nat} {Post : Option Value → aW → Prop} {C : Nat → Nat → Int32} {F : Nat → Nat → Option Nat} (h : (288 : Int32) = (288 : Int32) ∧ (am_At (d + 1) 30 none Post 75 [some (.ref 23)] [.ref 31, .ref 23] (am_wN ((31, am_sh, C, (am_uF F 23 8 (some 30))) : aW) (2, 288)) (8, 690))) : am_At (d + 1) 30 none Post 66 [some (.ref 23)] [.ref 30, .ref 23] ((31, am_sh, C, F) : aW) (7, 402) := am_wp_ok (stops := [19, 26, 33, 41, 49, 57, 66, 75, 84, 96, 104]) am_k30 400 _ _ _ _ _ h
set_option maxRecDepth 100000 in
theorem z_S23_75_32 {d : Nat} {Post : Option Value → aW → Prop} {C : Nat → Nat → Int32} {F : Nat → Nat → Option Nat} (h : (288 : Int32) = (288 : Int32) ∧ (am_At (d + 1) 30 none Post 84 [some (.ref 23)] [.ref 32, .ref 23] (am_wN ((32, am_sh, C, (am_uF F 23 9 (some 31))) : aW) (3, 288)) (9, 978))) : am_At (d + 1) 30 none Post 75 [some (.ref 23)] [.ref 31, .ref 23] ((32, am_sh, C, F) : aW) (8, 690) := am_wp_ok (stops := [19, 26, 33, 41, 49, 57, 66, 75, 84, 96, 104]) am_k30 400 _ _ _ _ _ h
set_option maxRecDepth 100000 in
theorem z_S23_84_33 {d : Nat} {Post : Option Value → aW → Prop} {C : Nat → Nat → Int32} {F : Nat → Nat → Option Nat} (h : am_Cv d 163 [.ref 27, .int (100 : Int32)] ((33, am_sh, C, (am_uF (am_uF F 23 5 (some 27)) 23 10 (some 32))) : aW) (fun w1 => am_At (d + 1) 30 none Post 96 [some (.ref 23)] [] w1 (9, 978))) : am_At (d + 1) 30 none Post 84 [some (.ref 23)] [.ref 32, .ref 23] ((33, am_sh, C, (am_uF F 23 5 (some 27))) : aW) (9, 978) := am_wp_ok (stops := [19, 26, 33, 41, 49, 57, 66, 75, 84, 96, 104]) am_k30 400 _ _ _ _ _ h
set_option maxRecDepth 100000 in
theorem z_S23_96_33 {d : Nat} {Post : Option Value → aW → Prop} {C : Nat → Nat → Int32} {F : Nat → Nat → Option Nat} (h : am_Cv d 163 [.ref 29, .int (-1 : Int32)] ((33, am_sh, C, (am_uF F 23 7 (some 29))) : aW) (fun w1 => am_At (d + 1) 30 none Post 104 [some (.ref 23)] [] w1 (9, 978))) : am_At (d + 1) 30 none Post 96 [some (.ref 23)] [] ((33, am_sh, C, (am_uF F 23 7 (some 29))) : aW) (9, 978) := am_wp_ok (stops := [19, 26, 33, 41, 49, 57, 66, 75, 84, 96, 104]) am_k30 400 _ _ _ _ _ h
set_option maxRecDepth 100000 in
theorem z_S23_104_33 {d : Nat} {Post : Option Value → aW → Prop} {C : Nat → Nat → Int32} {F : Nat → Nat → Option Nat} (h : Post none ((33, am_sh, C, F) : aW)) : am_At (d + 1) 30 none Post 104 [some (.ref 23)] [] ((33, am_sh, C, F) : aW) (9, 978) := am_wp_ok (stops := [19, 26, 33, 41, 49, 57, 66, 75, 84, 96, 104]) am_k30 400 _ _ _ _ _ h
theorem c_S23 {d : Nat} {C : Nat → Nat → Int32} {F : Nat → Nat → Option Nat} (hC : zU C 24) (hF : zF F 24) : cW (d + 2) 30 [.ref 23] (24, am_sh, C, F) (33, am_sh, stC C 23, stF F 23) := by
  refine am_meth (am_plain (by decide +kernel)) rfl (by decide) ?_
  refine z_S23_0_24 ?_
  refine ⟨rfl, ?_⟩
  refine at_new (M := 25) rfl rfl (zU_u2 (by decide) (zU_u2 (by decide) hC)) hF ?_
  refine z_S23_19_25 ?_
  refine ⟨rfl, ?_⟩
  refine at_new (M := 26) rfl rfl (zU_s (zU_u2 (by decide) (zU_u2 (by decide) hC))) (zF_uF (by decide) (zF_s hF)) ?_
  refine z_S23_26_26 ?_
  refine ⟨rfl, ?_⟩
  refine at_new (M := 27) rfl rfl (zU_s (zU_s (zU_u2 (by decide) (zU_u2 (by decide) hC)))) (zF_uF (by decide) (zF_s (zF_uF (by decide) (zF_s hF)))) ?_
  refine z_S23_33_27 ?_
  refine ⟨rfl, ?_⟩
  refine at_new (M := 28) rfl rfl (zU_s (zU_s (zU_s (zU_u2 (by decide) (zU_u2 (by decide) hC))))) (zF_uF (by decide) (zF_s (zF_uF (by decide) (zF_s (zF_uF (by decide) (zF_s hF)))))) ?_
  refine z_S23_41_28 ?_
  refine ⟨rfl, ?_⟩
  refine at_new (M := 29) rfl rfl (zU_s (zU_s (zU_s (zU_s (zU_u2 (by decide) (zU_u2 (by decide) hC)))))) (zF_uF (by decide) (zF_s (zF_uF (by decide) (zF_s (zF_uF (by decide) (zF_s (zF_uF (by decide) (zF_s hF)))))))) ?_
  refine z_S23_49_29 ?_
  refine ⟨rfl, ?_⟩
  refine at_new (M := 30) rfl rfl (zU_s (zU_s (zU_s (zU_s (zU_s (zU_u2 (by decide) (zU_u2 (by decide) hC))))))) (zF_uF (by decide) (zF_s (zF_uF (by decide) (zF_s (zF_uF (by decide) (zF_s (zF_uF (by decide) (zF_s (zF_uF (by decide) (zF_s hF)))))))))) ?_
  refine z_S23_57_30 ?_
  refine ⟨rfl, ?_⟩
  refine at_new (M := 31) rfl rfl (zU_s (zU_s (zU_s (zU_s (zU_s (zU_s (zU_u2 (by decide) (zU_u2 (by decide) hC)))))))) (zF_uF (by decide) (zF_s (zF_uF (by decide) (zF_s (zF_uF (by decide) (zF_s (zF_uF (by decide) (zF_s (zF_uF (by decide) (zF_s (zF_uF (by decide) (zF_s hF)))))))))))) ?_
  refine z_S23_66_31 ?_
  refine ⟨rfl, ?_⟩
  refine at_new (M := 32) rfl rfl (zU_s (zU_s (zU_s (zU_s (zU_s (zU_s (zU_s (zU_u2 (by decide) (zU_u2 (by decide) hC))))))))) (zF_uF (by decide) (zF_s (zF_uF (by decide) (zF_s (zF_uF (by decide) (zF_s (zF_uF (by decide) (zF_s (zF_uF (by decide) (zF_s (zF_uF (by decide) (zF_s (zF_uF (by decide) (zF_s hF)))))))))))))) ?_
  refine z_S23_75_32 ?_
  refine ⟨rfl, ?_⟩
  refine at_new (M := 33) rfl rfl (zU_s (zU_s (zU_s (zU_s (zU_s (zU_s (zU_s (zU_s (zU_u2 (by decide) (zU_u2 (by decide) hC)))))))))) (zF_uF (by decide) (zF_s (zF_uF (by decide) (zF_s (zF_uF (by decide) (zF_s (zF_uF (by decide) (zF_s (zF_uF (by decide) (zF_s (zF_uF (by decide) (zF_s (zF_uF (by decide) (zF_s (zF_uF (by decide) (zF_s hF)))))))))))))))) ?_
  refine at_ref (i := 23) (kk := 5) (j := 27) rfl ?_
  refine z_S23_84_33 ?_
  refine use_W (c_fill (q := 27) (n := 6) (by decide) rfl (by decide)) ?_
  refine at_ref (i := 23) (kk := 7) (j := 29) rfl ?_
  refine z_S23_96_33 ?_
  refine use_W (c_fill (q := 29) (n := 48) (by decide) rfl (by decide)) ?_
  refine z_S23_104_33 ?_
  exact ⟨⟨rfl, rfl⟩, rfl⟩
theorem zU_S23 {C : Nat → Nat → Int32} (h : zU C 24) : zU (stC C 23) 33 := zU_st h
theorem zF_S23 {F : Nat → Nat → Option Nat} (h : zF F 24) : zF (stF F 23) 33 := zF_st h
set_option maxRecDepth 100000 in
theorem z_S33_0_34 {d : Nat} {Post : Option Value → aW → Prop} {C : Nat → Nat → Int32} {F : Nat → Nat → Option Nat} (h : (4 : Int32) = (4 : Int32) ∧ (am_At (d + 1) 30 none Post 19 [some (.ref 33)] [.ref 34, .ref 33] (am_wN ((34, am_sh, (am_u2 (am_u2 C 33 0 (0 : Int32)) 33 1 (20 : Int32)), F) : aW) (2, 4)) (1, 4))) : am_At (d + 1) 30 none Post 0 [some (.ref 33)] [] ((34, am_sh, C, F) : aW) (0, 0) := am_wp_ok (stops := [19, 26, 33, 41, 49, 57, 66, 75, 84, 96, 104]) am_k30 400 _ _ _ _ _ h
set_option maxRecDepth 100000 in
theorem z_S33_19_35 {d : Nat} {Post : Option Value → aW → Prop} {C : Nat → Nat → Int32} {F : Nat → Nat → Option Nat} (h : (4 : Int32) = (4 : Int32) ∧ (am_At (d + 1) 30 none Post 26 [some (.ref 33)] [.ref 35, .ref 33] (am_wN ((35, am_sh, C, (am_uF F 33 2 (some 34))) : aW) (2, 4)) (2, 8))) : am_At (d + 1) 30 none Post 19 [some (.ref 33)] [.ref 34, .ref 33] ((35, am_sh, C, F) : aW) (1, 4) := am_wp_ok (stops := [19, 26, 33, 41, 49, 57, 66, 75, 84, 96, 104]) am_k30 400 _ _ _ _ _ h
set_option maxRecDepth 100000 in
theorem z_S33_26_36 {d : Nat} {Post : Option Value → aW → Prop} {C : Nat → Nat → Int32} {F : Nat → Nat → Option Nat} (h : (4 : Int32) = (4 : Int32) ∧ (am_At (d + 1) 30 none Post 33 [some (.ref 33)] [.ref 36, .ref 33] (am_wN ((36, am_sh, C, (am_uF F 33 3 (some 35))) : aW) (2, 4)) (3, 12))) : am_At (d + 1) 30 none Post 26 [some (.ref 33)] [.ref 35, .ref 33] ((36, am_sh, C, F) : aW) (2, 8) := am_wp_ok (stops := [19, 26, 33, 41, 49, 57, 66, 75, 84, 96, 104]) am_k30 400 _ _ _ _ _ h
set_option maxRecDepth 100000 in
theorem z_S33_33_37 {d : Nat} {Post : Option Value → aW → Prop} {C : Nat → Nat → Int32} {F : Nat → Nat → Option Nat} (h : (6 : Int32) = (6 : Int32) ∧ (am_At (d + 1) 30 none Post 41 [some (.ref 33)] [.ref 37, .ref 33] (am_wN ((37, am_sh, C, (am_uF F 33 4 (some 36))) : aW) (2, 6)) (4, 18))) : am_At (d + 1) 30 none Post 33 [some (.ref 33)] [.ref 36, .ref 33] ((37, am_sh, C, F) : aW) (3, 12) := am_wp_ok (stops := [19, 26, 33, 41, 49, 57, 66, 75, 84, 96, 104]) am_k30 400 _ _ _ _ _ h
set_option maxRecDepth 100000 in
theorem z_S33_41_38 {d : Nat} {Post : Option Value → aW → Prop} {C : Nat → Nat → Int32} {F : Nat → Nat → Option Nat} (h : (48 : Int32) = (48 : Int32) ∧ (am_At (d + 1) 30 none Post 49 [some (.ref 33)] [.ref 38, .ref 33] (am_wN ((38, am_sh, C, (am_uF F 33 5 (some 37))) : aW) (2, 48)) (5, 66))) : am_At (d + 1) 30 none Post 41 [some (.ref 33)] [.ref 37, .ref 33] ((38, am_sh, C, F) : aW) (4, 18) := am_wp_ok (stops := [19, 26, 33, 41, 49, 57, 66, 75, 84, 96, 104]) am_k30 400 _ _ _ _ _ h
set_option maxRecDepth 100000 in
theorem z_S33_49_39 {d : Nat} {Post : Option Value → aW → Prop} {C : Nat → Nat → Int32} {F : Nat → Nat → Option Nat} (h : (48 : Int32) = (48 : Int32) ∧ (am_At (d + 1) 30 none Post 57 [some (.ref 33)] [.ref 39, .ref 33] (am_wN ((39, am_sh, C, (am_uF F 33 6 (some 38))) : aW) (2, 48)) (6, 114))) : am_At (d + 1) 30 none Post 49 [some (.ref 33)] [.ref 38, .ref 33] ((39, am_sh, C, F) : aW) (5, 66) := am_wp_ok (stops := [19, 26, 33, 41, 49, 57, 66, 75, 84, 96, 104]) am_k30 400 _ _ _ _ _ h
set_option maxRecDepth 100000 in
theorem z_S33_57_40 {d : Nat} {Post : Option Value → aW → Prop} {C : Nat → Nat → Int32} {F : Nat → Nat → Option Nat} (h : (288 : Int32) = (288 : Int32) ∧ (am_At (d + 1) 30 none Post 66 [some (.ref 33)] [.ref 40, .ref 33] (am_wN ((40, am_sh, C, (am_uF F 33 7 (some 39))) : aW) (2, 288)) (7, 402))) : am_At (d + 1) 30 none Post 57 [some (.ref 33)] [.ref 39, .ref 33] ((40, am_sh, C, F) : aW) (6, 114) := am_wp_ok (stops := [19, 26, 33, 41, 49, 57, 66, 75, 84, 96, 104]) am_k30 400 _ _ _ _ _ h
set_option maxRecDepth 100000 in
theorem z_S33_66_41 {d : Nat} {Post : Option Value → aW → Prop} {C : Nat → Nat → Int32} {F : Nat → Nat → Option Nat} (h : (288 : Int32) = (288 : Int32) ∧ (am_At (d + 1) 30 none Post 75 [some (.ref 33)] [.ref 41, .ref 33] (am_wN ((41, am_sh, C, (am_uF F 33 8 (some 40))) : aW) (2, 288)) (8, 690))) : am_At (d + 1) 30 none Post 66 [some (.ref 33)] [.ref 40, .ref 33] ((41, am_sh, C, F) : aW) (7, 402) := am_wp_ok (stops := [19, 26, 33, 41, 49, 57, 66, 75, 84, 96, 104]) am_k30 400 _ _ _ _ _ h
set_option maxRecDepth 100000 in
theorem z_S33_75_42 {d : Nat} {Post : Option Value → aW → Prop} {C : Nat → Nat → Int32} {F : Nat → Nat → Option Nat} (h : (288 : Int32) = (288 : Int32) ∧ (am_At (d + 1) 30 none Post 84 [some (.ref 33)] [.ref 42, .ref 33] (am_wN ((42, am_sh, C, (am_uF F 33 9 (some 41))) : aW) (3, 288)) (9, 978))) : am_At (d + 1) 30 none Post 75 [some (.ref 33)] [.ref 41, .ref 33] ((42, am_sh, C, F) : aW) (8, 690) := am_wp_ok (stops := [19, 26, 33, 41, 49, 57, 66, 75, 84, 96, 104]) am_k30 400 _ _ _ _ _ h
set_option maxRecDepth 100000 in
theorem z_S33_84_43 {d : Nat} {Post : Option Value → aW → Prop} {C : Nat → Nat → Int32} {F : Nat → Nat → Option Nat} (h : am_Cv d 163 [.ref 37, .int (100 : Int32)] ((43, am_sh, C, (am_uF (am_uF F 33 5 (some 37)) 33 10 (some 42))) : aW) (fun w1 => am_At (d + 1) 30 none Post 96 [some (.ref 33)] [] w1 (9, 978))) : am_At (d + 1) 30 none Post 84 [some (.ref 33)] [.ref 42, .ref 33] ((43, am_sh, C, (am_uF F 33 5 (some 37))) : aW) (9, 978) := am_wp_ok (stops := [19, 26, 33, 41, 49, 57, 66, 75, 84, 96, 104]) am_k30 400 _ _ _ _ _ h
set_option maxRecDepth 100000 in
theorem z_S33_96_43 {d : Nat} {Post : Option Value → aW → Prop} {C : Nat → Nat → Int32} {F : Nat → Nat → Option Nat} (h : am_Cv d 163 [.ref 39, .int (-1 : Int32)] ((43, am_sh, C, (am_uF F 33 7 (some 39))) : aW) (fun w1 => am_At (d + 1) 30 none Post 104 [some (.ref 33)] [] w1 (9, 978))) : am_At (d + 1) 30 none Post 96 [some (.ref 33)] [] ((43, am_sh, C, (am_uF F 33 7 (some 39))) : aW) (9, 978) := am_wp_ok (stops := [19, 26, 33, 41, 49, 57, 66, 75, 84, 96, 104]) am_k30 400 _ _ _ _ _ h
set_option maxRecDepth 100000 in
theorem z_S33_104_43 {d : Nat} {Post : Option Value → aW → Prop} {C : Nat → Nat → Int32} {F : Nat → Nat → Option Nat} (h : Post none ((43, am_sh, C, F) : aW)) : am_At (d + 1) 30 none Post 104 [some (.ref 33)] [] ((43, am_sh, C, F) : aW) (9, 978) := am_wp_ok (stops := [19, 26, 33, 41, 49, 57, 66, 75, 84, 96, 104]) am_k30 400 _ _ _ _ _ h
theorem c_S33 {d : Nat} {C : Nat → Nat → Int32} {F : Nat → Nat → Option Nat} (hC : zU C 34) (hF : zF F 34) : cW (d + 2) 30 [.ref 33] (34, am_sh, C, F) (43, am_sh, stC C 33, stF F 33) := by
  refine am_meth (am_plain (by decide +kernel)) rfl (by decide) ?_
  refine z_S33_0_34 ?_
  refine ⟨rfl, ?_⟩
  refine at_new (M := 35) rfl rfl (zU_u2 (by decide) (zU_u2 (by decide) hC)) hF ?_
  refine z_S33_19_35 ?_
  refine ⟨rfl, ?_⟩
  refine at_new (M := 36) rfl rfl (zU_s (zU_u2 (by decide) (zU_u2 (by decide) hC))) (zF_uF (by decide) (zF_s hF)) ?_
  refine z_S33_26_36 ?_
  refine ⟨rfl, ?_⟩
  refine at_new (M := 37) rfl rfl (zU_s (zU_s (zU_u2 (by decide) (zU_u2 (by decide) hC)))) (zF_uF (by decide) (zF_s (zF_uF (by decide) (zF_s hF)))) ?_
  refine z_S33_33_37 ?_
  refine ⟨rfl, ?_⟩
  refine at_new (M := 38) rfl rfl (zU_s (zU_s (zU_s (zU_u2 (by decide) (zU_u2 (by decide) hC))))) (zF_uF (by decide) (zF_s (zF_uF (by decide) (zF_s (zF_uF (by decide) (zF_s hF)))))) ?_
  refine z_S33_41_38 ?_
  refine ⟨rfl, ?_⟩
  refine at_new (M := 39) rfl rfl (zU_s (zU_s (zU_s (zU_s (zU_u2 (by decide) (zU_u2 (by decide) hC)))))) (zF_uF (by decide) (zF_s (zF_uF (by decide) (zF_s (zF_uF (by decide) (zF_s (zF_uF (by decide) (zF_s hF)))))))) ?_
  refine z_S33_49_39 ?_
  refine ⟨rfl, ?_⟩
  refine at_new (M := 40) rfl rfl (zU_s (zU_s (zU_s (zU_s (zU_s (zU_u2 (by decide) (zU_u2 (by decide) hC))))))) (zF_uF (by decide) (zF_s (zF_uF (by decide) (zF_s (zF_uF (by decide) (zF_s (zF_uF (by decide) (zF_s (zF_uF (by decide) (zF_s hF)))))))))) ?_
  refine z_S33_57_40 ?_
  refine ⟨rfl, ?_⟩
  refine at_new (M := 41) rfl rfl (zU_s (zU_s (zU_s (zU_s (zU_s (zU_s (zU_u2 (by decide) (zU_u2 (by decide) hC)))))))) (zF_uF (by decide) (zF_s (zF_uF (by decide) (zF_s (zF_uF (by decide) (zF_s (zF_uF (by decide) (zF_s (zF_uF (by decide) (zF_s (zF_uF (by decide) (zF_s hF)))))))))))) ?_
  refine z_S33_66_41 ?_
  refine ⟨rfl, ?_⟩
  refine at_new (M := 42) rfl rfl (zU_s (zU_s (zU_s (zU_s (zU_s (zU_s (zU_s (zU_u2 (by decide) (zU_u2 (by decide) hC))))))))) (zF_uF (by decide) (zF_s (zF_uF (by decide) (zF_s (zF_uF (by decide) (zF_s (zF_uF (by decide) (zF_s (zF_uF (by decide) (zF_s (zF_uF (by decide) (zF_s (zF_uF (by decide) (zF_s hF)))))))))))))) ?_
  refine z_S33_75_42 ?_
  refine ⟨rfl, ?_⟩
  refine at_new (M := 43) rfl rfl (zU_s (zU_s (zU_s (zU_s (zU_s (zU_s (zU_s (zU_s (zU_u2 (by decide) (zU_u2 (by decide) hC)))))))))) (zF_uF (by decide) (zF_s (zF_uF (by decide) (zF_s (zF_uF (by decide) (zF_s (zF_uF (by decide) (zF_s (zF_uF (by decide) (zF_s (zF_uF (by decide) (zF_s (zF_uF (by decide) (zF_s (zF_uF (by decide) (zF_s hF)))))))))))))))) ?_
  refine at_ref (i := 33) (kk := 5) (j := 37) rfl ?_
  refine z_S33_84_43 ?_
  refine use_W (c_fill (q := 37) (n := 6) (by decide) rfl (by decide)) ?_
  refine at_ref (i := 33) (kk := 7) (j := 39) rfl ?_
  refine z_S33_96_43 ?_
  refine use_W (c_fill (q := 39) (n := 48) (by decide) rfl (by decide)) ?_
  refine z_S33_104_43 ?_
  exact ⟨⟨rfl, rfl⟩, rfl⟩
theorem zU_S33 {C : Nat → Nat → Int32} (h : zU C 34) : zU (stC C 33) 43 := zU_st h
theorem zF_S33 {F : Nat → Nat → Option Nat} (h : zF F 34) : zF (stF F 33) 43 := zF_st h
set_option maxRecDepth 100000 in
theorem z_S43_0_44 {d : Nat} {Post : Option Value → aW → Prop} {C : Nat → Nat → Int32} {F : Nat → Nat → Option Nat} (h : (4 : Int32) = (4 : Int32) ∧ (am_At (d + 1) 30 none Post 19 [some (.ref 43)] [.ref 44, .ref 43] (am_wN ((44, am_sh, (am_u2 (am_u2 C 43 0 (0 : Int32)) 43 1 (20 : Int32)), F) : aW) (2, 4)) (1, 4))) : am_At (d + 1) 30 none Post 0 [some (.ref 43)] [] ((44, am_sh, C, F) : aW) (0, 0) := am_wp_ok (stops := [19, 26, 33, 41, 49, 57, 66, 75, 84, 96, 104]) am_k30 400 _ _ _ _ _ h
set_option maxRecDepth 100000 in
theorem z_S43_19_45 {d : Nat} {Post : Option Value → aW → Prop} {C : Nat → Nat → Int32} {F : Nat → Nat → Option Nat} (h : (4 : Int32) = (4 : Int32) ∧ (am_At (d + 1) 30 none Post 26 [some (.ref 43)] [.ref 45, .ref 43] (am_wN ((45, am_sh, C, (am_uF F 43 2 (some 44))) : aW) (2, 4)) (2, 8))) : am_At (d + 1) 30 none Post 19 [some (.ref 43)] [.ref 44, .ref 43] ((45, am_sh, C, F) : aW) (1, 4) := am_wp_ok (stops := [19, 26, 33, 41, 49, 57, 66, 75, 84, 96, 104]) am_k30 400 _ _ _ _ _ h
set_option maxRecDepth 100000 in
theorem z_S43_26_46 {d : Nat} {Post : Option Value → aW → Prop} {C : Nat → Nat → Int32} {F : Nat → Nat → Option Nat} (h : (4 : Int32) = (4 : Int32) ∧ (am_At (d + 1) 30 none Post 33 [some (.ref 43)] [.ref 46, .ref 43] (am_wN ((46, am_sh, C, (am_uF F 43 3 (some 45))) : aW) (2, 4)) (3, 12))) : am_At (d + 1) 30 none Post 26 [some (.ref 43)] [.ref 45, .ref 43] ((46, am_sh, C, F) : aW) (2, 8) := am_wp_ok (stops := [19, 26, 33, 41, 49, 57, 66, 75, 84, 96, 104]) am_k30 400 _ _ _ _ _ h
set_option maxRecDepth 100000 in
theorem z_S43_33_47 {d : Nat} {Post : Option Value → aW → Prop} {C : Nat → Nat → Int32} {F : Nat → Nat → Option Nat} (h : (6 : Int32) = (6 : Int32) ∧ (am_At (d + 1) 30 none Post 41 [some (.ref 43)] [.ref 47, .ref 43] (am_wN ((47, am_sh, C, (am_uF F 43 4 (some 46))) : aW) (2, 6)) (4, 18))) : am_At (d + 1) 30 none Post 33 [some (.ref 43)] [.ref 46, .ref 43] ((47, am_sh, C, F) : aW) (3, 12) := am_wp_ok (stops := [19, 26, 33, 41, 49, 57, 66, 75, 84, 96, 104]) am_k30 400 _ _ _ _ _ h
set_option maxRecDepth 100000 in
theorem z_S43_41_48 {d : Nat} {Post : Option Value → aW → Prop} {C : Nat → Nat → Int32} {F : Nat → Nat → Option Nat} (h : (48 : Int32) = (48 : Int32) ∧ (am_At (d + 1) 30 none Post 49 [some (.ref 43)] [.ref 48, .ref 43] (am_wN ((48, am_sh, C, (am_uF F 43 5 (some 47))) : aW) (2, 48)) (5, 66))) : am_At (d + 1) 30 none Post 41 [some (.ref 43)] [.ref 47, .ref 43] ((48, am_sh, C, F) : aW) (4, 18) := am_wp_ok (stops := [19, 26, 33, 41, 49, 57, 66, 75, 84, 96, 104]) am_k30 400 _ _ _ _ _ h
set_option maxRecDepth 100000 in
theorem z_S43_49_49 {d : Nat} {Post : Option Value → aW → Prop} {C : Nat → Nat → Int32} {F : Nat → Nat → Option Nat} (h : (48 : Int32) = (48 : Int32) ∧ (am_At (d + 1) 30 none Post 57 [some (.ref 43)] [.ref 49, .ref 43] (am_wN ((49, am_sh, C, (am_uF F 43 6 (some 48))) : aW) (2, 48)) (6, 114))) : am_At (d + 1) 30 none Post 49 [some (.ref 43)] [.ref 48, .ref 43] ((49, am_sh, C, F) : aW) (5, 66) := am_wp_ok (stops := [19, 26, 33, 41, 49, 57, 66, 75, 84, 96, 104]) am_k30 400 _ _ _ _ _ h
set_option maxRecDepth 100000 in
theorem z_S43_57_50 {d : Nat} {Post : Option Value → aW → Prop} {C : Nat → Nat → Int32} {F : Nat → Nat → Option Nat} (h : (288 : Int32) = (288 : Int32) ∧ (am_At (d + 1) 30 none Post 66 [some (.ref 43)] [.ref 50, .ref 43] (am_wN ((50, am_sh, C, (am_uF F 43 7 (some 49))) : aW) (2, 288)) (7, 402))) : am_At (d + 1) 30 none Post 57 [some (.ref 43)] [.ref 49, .ref 43] ((50, am_sh, C, F) : aW) (6, 114) := am_wp_ok (stops := [19, 26, 33, 41, 49, 57, 66, 75, 84, 96, 104]) am_k30 400 _ _ _ _ _ h
set_option maxRecDepth 100000 in
theorem z_S43_66_51 {d : Nat} {Post : Option Value → aW → Prop} {C : Nat → Nat → Int32} {F : Nat → Nat → Option Nat} (h : (288 : Int32) = (288 : Int32) ∧ (am_At (d + 1) 30 none Post 75 [some (.ref 43)] [.ref 51, .ref 43] (am_wN ((51, am_sh, C, (am_uF F 43 8 (some 50))) : aW) (2, 288)) (8, 690))) : am_At (d + 1) 30 none Post 66 [some (.ref 43)] [.ref 50, .ref 43] ((51, am_sh, C, F) : aW) (7, 402) := am_wp_ok (stops := [19, 26, 33, 41, 49, 57, 66, 75, 84, 96, 104]) am_k30 400 _ _ _ _ _ h
set_option maxRecDepth 100000 in
theorem z_S43_75_52 {d : Nat} {Post : Option Value → aW → Prop} {C : Nat → Nat → Int32} {F : Nat → Nat → Option Nat} (h : (288 : Int32) = (288 : Int32) ∧ (am_At (d + 1) 30 none Post 84 [some (.ref 43)] [.ref 52, .ref 43] (am_wN ((52, am_sh, C, (am_uF F 43 9 (some 51))) : aW) (3, 288)) (9, 978))) : am_At (d + 1) 30 none Post 75 [some (.ref 43)] [.ref 51, .ref 43] ((52, am_sh, C, F) : aW) (8, 690) := am_wp_ok (stops := [19, 26, 33, 41, 49, 57, 66, 75, 84, 96, 104]) am_k30 400 _ _ _ _ _ h
set_option maxRecDepth 100000 in
theorem z_S43_84_53 {d : Nat} {Post : Option Value → aW → Prop} {C : Nat → Nat → Int32} {F : Nat → Nat → Option Nat} (h : am_Cv d 163 [.ref 47, .int (100 : Int32)] ((53, am_sh, C, (am_uF (am_uF F 43 5 (some 47)) 43 10 (some 52))) : aW) (fun w1 => am_At (d + 1) 30 none Post 96 [some (.ref 43)] [] w1 (9, 978))) : am_At (d + 1) 30 none Post 84 [some (.ref 43)] [.ref 52, .ref 43] ((53, am_sh, C, (am_uF F 43 5 (some 47))) : aW) (9, 978) := am_wp_ok (stops := [19, 26, 33, 41, 49, 57, 66, 75, 84, 96, 104]) am_k30 400 _ _ _ _ _ h
set_option maxRecDepth 100000 in
theorem z_S43_96_53 {d : Nat} {Post : Option Value → aW → Prop} {C : Nat → Nat → Int32} {F : Nat → Nat → Option Nat} (h : am_Cv d 163 [.ref 49, .int (-1 : Int32)] ((53, am_sh, C, (am_uF F 43 7 (some 49))) : aW) (fun w1 => am_At (d + 1) 30 none Post 104 [some (.ref 43)] [] w1 (9, 978))) : am_At (d + 1) 30 none Post 96 [some (.ref 43)] [] ((53, am_sh, C, (am_uF F 43 7 (some 49))) : aW) (9, 978) := am_wp_ok (stops := [19, 26, 33, 41, 49, 57, 66, 75, 84, 96, 104]) am_k30 400 _ _ _ _ _ h
set_option maxRecDepth 100000 in
theorem z_S43_104_53 {d : Nat} {Post : Option Value → aW → Prop} {C : Nat → Nat → Int32} {F : Nat → Nat → Option Nat} (h : Post none ((53, am_sh, C, F) : aW)) : am_At (d + 1) 30 none Post 104 [some (.ref 43)] [] ((53, am_sh, C, F) : aW) (9, 978) := am_wp_ok (stops := [19, 26, 33, 41, 49, 57, 66, 75, 84, 96, 104]) am_k30 400 _ _ _ _ _ h
theorem c_S43 {d : Nat} {C : Nat → Nat → Int32} {F : Nat → Nat → Option Nat} (hC : zU C 44) (hF : zF F 44) : cW (d + 2) 30 [.ref 43] (44, am_sh, C, F) (53, am_sh, stC C 43, stF F 43) := by
  refine am_meth (am_plain (by decide +kernel)) rfl (by decide) ?_
  refine z_S43_0_44 ?_
  refine ⟨rfl, ?_⟩
  refine at_new (M := 45) rfl rfl (zU_u2 (by decide) (zU_u2 (by decide) hC)) hF ?_
  refine z_S43_19_45 ?_
  refine ⟨rfl, ?_⟩
  refine at_new (M := 46) rfl rfl (zU_s (zU_u2 (by decide) (zU_u2 (by decide) hC))) (zF_uF (by decide) (zF_s hF)) ?_
  refine z_S43_26_46 ?_
  refine ⟨rfl, ?_⟩
  refine at_new (M := 47) rfl rfl (zU_s (zU_s (zU_u2 (by decide) (zU_u2 (by decide) hC)))) (zF_uF (by decide) (zF_s (zF_uF (by decide) (zF_s hF)))) ?_
  refine z_S43_33_47 ?_
  refine ⟨rfl, ?_⟩
  refine at_new (M := 48) rfl rfl (zU_s (zU_s (zU_s (zU_u2 (by decide) (zU_u2 (by decide) hC))))) (zF_uF (by decide) (zF_s (zF_uF (by decide) (zF_s (zF_uF (by decide) (zF_s hF)))))) ?_
  refine z_S43_41_48 ?_
  refine ⟨rfl, ?_⟩
  refine at_new (M := 49) rfl rfl (zU_s (zU_s (zU_s (zU_s (zU_u2 (by decide) (zU_u2 (by decide) hC)))))) (zF_uF (by decide) (zF_s (zF_uF (by decide) (zF_s (zF_uF (by decide) (zF_s (zF_uF (by decide) (zF_s hF)))))))) ?_
  refine z_S43_49_49 ?_
  refine ⟨rfl, ?_⟩
  refine at_new (M := 50) rfl rfl (zU_s (zU_s (zU_s (zU_s (zU_s (zU_u2 (by decide) (zU_u2 (by decide) hC))))))) (zF_uF (by decide) (zF_s (zF_uF (by decide) (zF_s (zF_uF (by decide) (zF_s (zF_uF (by decide) (zF_s (zF_uF (by decide) (zF_s hF)))))))))) ?_
  refine z_S43_57_50 ?_
  refine ⟨rfl, ?_⟩
  refine at_new (M := 51) rfl rfl (zU_s (zU_s (zU_s (zU_s (zU_s (zU_s (zU_u2 (by decide) (zU_u2 (by decide) hC)))))))) (zF_uF (by decide) (zF_s (zF_uF (by decide) (zF_s (zF_uF (by decide) (zF_s (zF_uF (by decide) (zF_s (zF_uF (by decide) (zF_s (zF_uF (by decide) (zF_s hF)))))))))))) ?_
  refine z_S43_66_51 ?_
  refine ⟨rfl, ?_⟩
  refine at_new (M := 52) rfl rfl (zU_s (zU_s (zU_s (zU_s (zU_s (zU_s (zU_s (zU_u2 (by decide) (zU_u2 (by decide) hC))))))))) (zF_uF (by decide) (zF_s (zF_uF (by decide) (zF_s (zF_uF (by decide) (zF_s (zF_uF (by decide) (zF_s (zF_uF (by decide) (zF_s (zF_uF (by decide) (zF_s (zF_uF (by decide) (zF_s hF)))))))))))))) ?_
  refine z_S43_75_52 ?_
  refine ⟨rfl, ?_⟩
  refine at_new (M := 53) rfl rfl (zU_s (zU_s (zU_s (zU_s (zU_s (zU_s (zU_s (zU_s (zU_u2 (by decide) (zU_u2 (by decide) hC)))))))))) (zF_uF (by decide) (zF_s (zF_uF (by decide) (zF_s (zF_uF (by decide) (zF_s (zF_uF (by decide) (zF_s (zF_uF (by decide) (zF_s (zF_uF (by decide) (zF_s (zF_uF (by decide) (zF_s (zF_uF (by decide) (zF_s hF)))))))))))))))) ?_
  refine at_ref (i := 43) (kk := 5) (j := 47) rfl ?_
  refine z_S43_84_53 ?_
  refine use_W (c_fill (q := 47) (n := 6) (by decide) rfl (by decide)) ?_
  refine at_ref (i := 43) (kk := 7) (j := 49) rfl ?_
  refine z_S43_96_53 ?_
  refine use_W (c_fill (q := 49) (n := 48) (by decide) rfl (by decide)) ?_
  refine z_S43_104_53 ?_
  exact ⟨⟨rfl, rfl⟩, rfl⟩
theorem zU_S43 {C : Nat → Nat → Int32} (h : zU C 44) : zU (stC C 43) 53 := zU_st h
theorem zF_S43 {F : Nat → Nat → Option Nat} (h : zF F 44) : zF (stF F 43) 53 := zF_st h
set_option maxRecDepth 100000 in
theorem z_S53_0_54 {d : Nat} {Post : Option Value → aW → Prop} {C : Nat → Nat → Int32} {F : Nat → Nat → Option Nat} (h : (4 : Int32) = (4 : Int32) ∧ (am_At (d + 1) 30 none Post 19 [some (.ref 53)] [.ref 54, .ref 53] (am_wN ((54, am_sh, (am_u2 (am_u2 C 53 0 (0 : Int32)) 53 1 (20 : Int32)), F) : aW) (2, 4)) (1, 4))) : am_At (d + 1) 30 none Post 0 [some (.ref 53)] [] ((54, am_sh, C, F) : aW) (0, 0) := am_wp_ok (stops := [19, 26, 33, 41, 49, 57, 66, 75, 84, 96, 104]) am_k30 400 _ _ _ _ _ h
set_option maxRecDepth 100000 in
theorem z_S53_19_55 {d : Nat} {Post : Option Value → aW → Prop} {C : Nat → Nat → Int32} {F : Nat → Nat → Option Nat} (h : (4 : Int32) = (4 : Int32) ∧ (am_At (d + 1) 30 none Post 26 [some (.ref 53)] [.ref 55, .ref 53] (am_wN ((55, am_sh, C, (am_uF F 53 2 (some 54))) : aW) (2, 4)) (2, 8))) : am_At (d + 1) 30 none Post 19 [some (.ref 53)] [.ref 54, .ref 53] ((55, am_sh, C, F) : aW) (1, 4) := am_wp_ok (stops := [19, 26, 33, 41, 49, 57, 66, 75, 84, 96, 104]) am_k30 400 _ _ _ _ _ h
set_option maxRecDepth 100000 in
theorem z_S53_26_56 {d : Nat} {Post : Option Value → aW → Prop} {C : Nat → Nat → Int32} {F : Nat → Nat → Option Nat} (h : (4 : Int32) = (4 : Int32) ∧ (am_At (d + 1) 30 none Post 33 [some (.ref 53)] [.ref 56, .ref 53] (am_wN ((56, am_sh, C, (am_uF F 53 3 (some 55))) : aW) (2, 4)) (3, 12))) : am_At (d + 1) 30 none Post 26 [some (.ref 53)] [.ref 55, .ref 53] ((56, am_sh, C, F) : aW) (2, 8) := am_wp_ok (stops := [19, 26, 33, 41, 49, 57, 66, 75, 84, 96, 104]) am_k30 400 _ _ _ _ _ h
set_option maxRecDepth 100000 in
theorem z_S53_33_57 {d : Nat} {Post : Option Value → aW → Prop} {C : Nat → Nat → Int32} {F : Nat → Nat → Option Nat} (h : (6 : Int32) = (6 : Int32) ∧ (am_At (d + 1) 30 none Post 41 [some (.ref 53)] [.ref 57, .ref 53] (am_wN ((57, am_sh, C, (am_uF F 53 4 (some 56))) : aW) (2, 6)) (4, 18))) : am_At (d + 1) 30 none Post 33 [some (.ref 53)] [.ref 56, .ref 53] ((57, am_sh, C, F) : aW) (3, 12) := am_wp_ok (stops := [19, 26, 33, 41, 49, 57, 66, 75, 84, 96, 104]) am_k30 400 _ _ _ _ _ h
set_option maxRecDepth 100000 in
theorem z_S53_41_58 {d : Nat} {Post : Option Value → aW → Prop} {C : Nat → Nat → Int32} {F : Nat → Nat → Option Nat} (h : (48 : Int32) = (48 : Int32) ∧ (am_At (d + 1) 30 none Post 49 [some (.ref 53)] [.ref 58, .ref 53] (am_wN ((58, am_sh, C, (am_uF F 53 5 (some 57))) : aW) (2, 48)) (5, 66))) : am_At (d + 1) 30 none Post 41 [some (.ref 53)] [.ref 57, .ref 53] ((58, am_sh, C, F) : aW) (4, 18) := am_wp_ok (stops := [19, 26, 33, 41, 49, 57, 66, 75, 84, 96, 104]) am_k30 400 _ _ _ _ _ h
set_option maxRecDepth 100000 in
theorem z_S53_49_59 {d : Nat} {Post : Option Value → aW → Prop} {C : Nat → Nat → Int32} {F : Nat → Nat → Option Nat} (h : (48 : Int32) = (48 : Int32) ∧ (am_At (d + 1) 30 none Post 57 [some (.ref 53)] [.ref 59, .ref 53] (am_wN ((59, am_sh, C, (am_uF F 53 6 (some 58))) : aW) (2, 48)) (6, 114))) : am_At (d + 1) 30 none Post 49 [some (.ref 53)] [.ref 58, .ref 53] ((59, am_sh, C, F) : aW) (5, 66) := am_wp_ok (stops := [19, 26, 33, 41, 49, 57, 66, 75, 84, 96, 104]) am_k30 400 _ _ _ _ _ h
set_option maxRecDepth 100000 in
theorem z_S53_57_60 {d : Nat} {Post : Option Value → aW → Prop} {C : Nat → Nat → Int32} {F : Nat → Nat → Option Nat} (h : (288 : Int32) = (288 : Int32) ∧ (am_At (d + 1) 30 none Post 66 [some (.ref 53)] [.ref 60, .ref 53] (am_wN ((60, am_sh, C, (am_uF F 53 7 (some 59))) : aW) (2, 288)) (7, 402))) : am_At (d + 1) 30 none Post 57 [some (.ref 53)] [.ref 59, .ref 53] ((60, am_sh, C, F) : aW) (6, 114) := am_wp_ok (stops := [19, 26, 33, 41, 49, 57, 66, 75, 84, 96, 104]) am_k30 400 _ _ _ _ _ h
set_option maxRecDepth 100000 in
theorem z_S53_66_61 {d : Nat} {Post : Option Value → aW → Prop} {C : Nat → Nat → Int32} {F : Nat → Nat → Option Nat} (h : (288 : Int32) = (288 : Int32) ∧ (am_At (d + 1) 30 none Post 75 [some (.ref 53)] [.ref 61, .ref 53] (am_wN ((61, am_sh, C, (am_uF F 53 8 (some 60))) : aW) (2, 288)) (8, 690))) : am_At (d + 1) 30 none Post 66 [some (.ref 53)] [.ref 60, .ref 53] ((61, am_sh, C, F) : aW) (7, 402) := am_wp_ok (stops := [19, 26, 33, 41, 49, 57, 66, 75, 84, 96, 104]) am_k30 400 _ _ _ _ _ h
set_option maxRecDepth 100000 in
theorem z_S53_75_62 {d : Nat} {Post : Option Value → aW → Prop} {C : Nat → Nat → Int32} {F : Nat → Nat → Option Nat} (h : (288 : Int32) = (288 : Int32) ∧ (am_At (d + 1) 30 none Post 84 [some (.ref 53)] [.ref 62, .ref 53] (am_wN ((62, am_sh, C, (am_uF F 53 9 (some 61))) : aW) (3, 288)) (9, 978))) : am_At (d + 1) 30 none Post 75 [some (.ref 53)] [.ref 61, .ref 53] ((62, am_sh, C, F) : aW) (8, 690) := am_wp_ok (stops := [19, 26, 33, 41, 49, 57, 66, 75, 84, 96, 104]) am_k30 400 _ _ _ _ _ h
set_option maxRecDepth 100000 in
theorem z_S53_84_63 {d : Nat} {Post : Option Value → aW → Prop} {C : Nat → Nat → Int32} {F : Nat → Nat → Option Nat} (h : am_Cv d 163 [.ref 57, .int (100 : Int32)] ((63, am_sh, C, (am_uF (am_uF F 53 5 (some 57)) 53 10 (some 62))) : aW) (fun w1 => am_At (d + 1) 30 none Post 96 [some (.ref 53)] [] w1 (9, 978))) : am_At (d + 1) 30 none Post 84 [some (.ref 53)] [.ref 62, .ref 53] ((63, am_sh, C, (am_uF F 53 5 (some 57))) : aW) (9, 978) := am_wp_ok (stops := [19, 26, 33, 41, 49, 57, 66, 75, 84, 96, 104]) am_k30 400 _ _ _ _ _ h
set_option maxRecDepth 100000 in
theorem z_S53_96_63 {d : Nat} {Post : Option Value → aW → Prop} {C : Nat → Nat → Int32} {F : Nat → Nat → Option Nat} (h : am_Cv d 163 [.ref 59, .int (-1 : Int32)] ((63, am_sh, C, (am_uF F 53 7 (some 59))) : aW) (fun w1 => am_At (d + 1) 30 none Post 104 [some (.ref 53)] [] w1 (9, 978))) : am_At (d + 1) 30 none Post 96 [some (.ref 53)] [] ((63, am_sh, C, (am_uF F 53 7 (some 59))) : aW) (9, 978) := am_wp_ok (stops := [19, 26, 33, 41, 49, 57, 66, 75, 84, 96, 104]) am_k30 400 _ _ _ _ _ h
set_option maxRecDepth 100000 in
theorem z_S53_104_63 {d : Nat} {Post : Option Value → aW → Prop} {C : Nat → Nat → Int32} {F : Nat → Nat → Option Nat} (h : Post none ((63, am_sh, C, F) : aW)) : am_At (d + 1) 30 none Post 104 [some (.ref 53)] [] ((63, am_sh, C, F) : aW) (9, 978) := am_wp_ok (stops := [19, 26, 33, 41, 49, 57, 66, 75, 84, 96, 104]) am_k30 400 _ _ _ _ _ h
theorem c_S53 {d : Nat} {C : Nat → Nat → Int32} {F : Nat → Nat → Option Nat} (hC : zU C 54) (hF : zF F 54) : cW (d + 2) 30 [.ref 53] (54, am_sh, C, F) (63, am_sh, stC C 53, stF F 53) := by
  refine am_meth (am_plain (by decide +kernel)) rfl (by decide) ?_
  refine z_S53_0_54 ?_
  refine ⟨rfl, ?_⟩
  refine at_new (M := 55) rfl rfl (zU_u2 (by decide) (zU_u2 (by decide) hC)) hF ?_
  refine z_S53_19_55 ?_
  refine ⟨rfl, ?_⟩
  refine at_new (M := 56) rfl rfl (zU_s (zU_u2 (by decide) (zU_u2 (by decide) hC))) (zF_uF (by decide) (zF_s hF)) ?_
  refine z_S53_26_56 ?_
  refine ⟨rfl, ?_⟩
  refine at_new (M := 57) rfl rfl (zU_s (zU_s (zU_u2 (by decide) (zU_u2 (by decide) hC)))) (zF_uF (by decide) (zF_s (zF_uF (by decide) (zF_s hF)))) ?_
  refine z_S53_33_57 ?_
  refine ⟨rfl, ?_⟩
  refine at_new (M := 58) rfl rfl (zU_s (zU_s (zU_s (zU_u2 (by decide) (zU_u2 (by decide) hC))))) (zF_uF (by decide) (zF_s (zF_uF (by decide) (zF_s (zF_uF (by decide) (zF_s hF)))))) ?_
  refine z_S53_41_58 ?_
  refine ⟨rfl, ?_⟩
  refine at_new (M := 59) rfl rfl (zU_s (zU_s (zU_s (zU_s (zU_u2 (by decide) (zU_u2 (by decide) hC)))))) (zF_uF (by decide) (zF_s (zF_uF (by decide) (zF_s (zF_uF (by decide) (zF_s (zF_uF (by decide) (zF_s hF)))))))) ?_
  refine z_S53_49_59 ?_
  refine ⟨rfl, ?_⟩
  refine at_new (M := 60) rfl rfl (zU_s (zU_s (zU_s (zU_s (zU_s (zU_u2 (by decide) (zU_u2 (by decide) hC))))))) (zF_uF (by decide) (zF_s (zF_uF (by decide) (zF_s (zF_uF (by decide) (zF_s (zF_uF (by decide) (zF_s (zF_uF (by decide) (zF_s hF)))))))))) ?_
  refine z_S53_57_60 ?_
  refine ⟨rfl, ?_⟩
  refine at_new (M := 61) rfl rfl (zU_s (zU_s (zU_s (zU_s (zU_s (zU_s (zU_u2 (by decide) (zU_u2 (by decide) hC)))))))) (zF_uF (by decide) (zF_s (zF_uF (by decide) (zF_s (zF_uF (by decide) (zF_s (zF_uF (by decide) (zF_s (zF_uF (by decide) (zF_s (zF_uF (by decide) (zF_s hF)))))))))))) ?_
  refine z_S53_66_61 ?_
  refine ⟨rfl, ?_⟩
  refine at_new (M := 62) rfl rfl (zU_s (zU_s (zU_s (zU_s (zU_s (zU_s (zU_s (zU_u2 (by decide) (zU_u2 (by decide) hC))))))))) (zF_uF (by decide) (zF_s (zF_uF (by decide) (zF_s (zF_uF (by decide) (zF_s (zF_uF (by decide) (zF_s (zF_uF (by decide) (zF_s (zF_uF (by decide) (zF_s (zF_uF (by decide) (zF_s hF)))))))))))))) ?_
  refine z_S53_75_62 ?_
  refine ⟨rfl, ?_⟩
  refine at_new (M := 63) rfl rfl (zU_s (zU_s (zU_s (zU_s (zU_s (zU_s (zU_s (zU_s (zU_u2 (by decide) (zU_u2 (by decide) hC)))))))))) (zF_uF (by decide) (zF_s (zF_uF (by decide) (zF_s (zF_uF (by decide) (zF_s (zF_uF (by decide) (zF_s (zF_uF (by decide) (zF_s (zF_uF (by decide) (zF_s (zF_uF (by decide) (zF_s (zF_uF (by decide) (zF_s hF)))))))))))))))) ?_
  refine at_ref (i := 53) (kk := 5) (j := 57) rfl ?_
  refine z_S53_84_63 ?_
  refine use_W (c_fill (q := 57) (n := 6) (by decide) rfl (by decide)) ?_
  refine at_ref (i := 53) (kk := 7) (j := 59) rfl ?_
  refine z_S53_96_63 ?_
  refine use_W (c_fill (q := 59) (n := 48) (by decide) rfl (by decide)) ?_
  refine z_S53_104_63 ?_
  exact ⟨⟨rfl, rfl⟩, rfl⟩
theorem zU_S53 {C : Nat → Nat → Int32} (h : zU C 54) : zU (stC C 53) 63 := zU_st h
theorem zF_S53 {F : Nat → Nat → Option Nat} (h : zF F 54) : zF (stF F 53) 63 := zF_st h
set_option maxRecDepth 100000 in
theorem z_H_0_22 {d : Nat} {Post : Option Value → aW → Prop} {C : Nat → Nat → Int32} {F : Nat → Nat → Option Nat} (h : (4 : Int32) = (4 : Int32) ∧ (am_At (d + 1) 0 none Post 9 [some (.ref 21), none] [.ref 22, .ref 21] (am_wN ((22, am_sh, C, F) : aW) (4, 4)) (1, 4))) : am_At (d + 1) 0 none Post 0 [some (.ref 21), none] [] ((22, am_sh, C, F) : aW) (0, 0) := am_wp_ok (stops := [9, 19, 32, 36]) am_k0 400 _ _ _ _ _ h
set_option maxRecDepth 100000 in
theorem z_H_9_23 {d : Nat} {Post : Option Value → aW → Prop} {C : Nat → Nat → Int32} {F : Nat → Nat → Option Nat} (h : am_At (d + 1) 0 none Post 19 [some (.ref 21), some (.int (0 : Int32))] [] ((23, am_sh, (am_u2 C 21 1 (0 : Int32)), (am_uF F 21 0 (some 22))) : aW) (1, 4)) : am_At (d + 1) 0 none Post 9 [some (.ref 21), none] [.ref 22, .ref 21] ((23, am_sh, C, F) : aW) (1, 4) := am_wp_ok (stops := [9, 19, 32, 36]) am_k0 400 _ _ _ _ _ h
set_option maxRecDepth 100000 in
theorem z_H_19_23 {d : Nat} {Post : Option Value → aW → Prop} {C : Nat → Nat → Int32} {F : Nat → Nat → Option Nat} {x1 : Int32} (h : ((4 : Int32) ≤ x1 → (Post none ((23, am_sh, C, (am_uF F 21 0 (some 22))) : aW))) ∧ (¬ (4 : Int32) ≤ x1 → am_At (d + 1) 0 none Post 32 [some (.ref 21), some (.int x1)] [.ref 23, .int x1, .ref 22] (am_wN ((23, am_sh, C, (am_uF F 21 0 (some 22))) : aW) (0, 3)) (2, 15))) : am_At (d + 1) 0 none Post 19 [some (.ref 21), some (.int x1)] [] ((23, am_sh, C, (am_uF F 21 0 (some 22))) : aW) (1, 4) := am_wp_ok (stops := [9, 19, 32, 36]) am_k0 400 _ _ _ _ _ h
set_option maxRecDepth 100000 in
theorem z_H_32_24 {d : Nat} {Post : Option Value → aW → Prop} {C : Nat → Nat → Int32} {F : Nat → Nat → Option Nat} {x1 : Int32} (h : am_Cv d 30 [.ref 23] ((24, am_sh, C, F) : aW) (fun w1 => am_At (d + 1) 0 none Post 36 [some (.ref 21), some (.int x1)] [.ref 23, .int x1, .ref 22] w1 (11, 993))) : am_At (d + 1) 0 none Post 32 [some (.ref 21), some (.int x1)] [.ref 23, .int x1, .ref 22] ((24, am_sh, C, F) : aW) (2, 15) := am_wp_ok (stops := [9, 19, 32, 36]) am_k0 400 _ _ _ _ _ h
set_option maxRecDepth 100000 in
theorem z_H_36_33 {d : Nat} {Post : Option Value → aW → Prop} {C : Nat → Nat → Int32} {F : Nat → Nat → Option Nat} {x1 : Int32} (h : vp_in x1 4 ∧ am_ob ((33, am_sh, C, F) : aW) 23 3 (am_At (d + 1) 0 none Post 19 [some (.ref 21), some (.int (x1 + (1 : Int32)))] [] ((33, am_sh, C, (am_uF F 22 x1.toNatClampNeg (some 23))) : aW) (11, 993))) : am_At (d + 1) 0 none Post 36 [some (.ref 21), some (.int x1)] [.ref 23, .int x1, .ref 22] ((33, am_sh, C, F) : aW) (11, 993) := am_wp_ok (stops := [9, 19, 32, 36]) am_k0 400 _ _ _ _ _ h
set_option maxRecDepth 100000 in
theorem z_H_19_33 {d : Nat} {Post : Option Value → aW → Prop} {C : Nat → Nat → Int32} {F : Nat → Nat → Option Nat} {x1 : Int32} (h : ((4 : Int32) ≤ x1 → (Post none ((33, am_sh, C, (am_uF F 21 0 (some 22))) : aW))) ∧ (¬ (4 : Int32) ≤ x1 → am_At (d + 1) 0 none Post 32 [some (.ref 21), some (.int x1)] [.ref 33, .int x1, .ref 22] (am_wN ((33, am_sh, C, (am_uF F 21 0 (some 22))) : aW) (0, 3)) (12, 1004))) : am_At (d + 1) 0 none Post 19 [some (.ref 21), some (.int x1)] [] ((33, am_sh, C, (am_uF F 21 0 (some 22))) : aW) (11, 993) := am_wp_ok (stops := [9, 19, 32, 36]) am_k0 400 _ _ _ _ _ h
set_option maxRecDepth 100000 in
theorem z_H_32_34 {d : Nat} {Post : Option Value → aW → Prop} {C : Nat → Nat → Int32} {F : Nat → Nat → Option Nat} {x1 : Int32} (h : am_Cv d 30 [.ref 33] ((34, am_sh, C, F) : aW) (fun w1 => am_At (d + 1) 0 none Post 36 [some (.ref 21), some (.int x1)] [.ref 33, .int x1, .ref 22] w1 (21, 1982))) : am_At (d + 1) 0 none Post 32 [some (.ref 21), some (.int x1)] [.ref 33, .int x1, .ref 22] ((34, am_sh, C, F) : aW) (12, 1004) := am_wp_ok (stops := [9, 19, 32, 36]) am_k0 400 _ _ _ _ _ h
set_option maxRecDepth 100000 in
theorem z_H_36_43 {d : Nat} {Post : Option Value → aW → Prop} {C : Nat → Nat → Int32} {F : Nat → Nat → Option Nat} {x1 : Int32} (h : vp_in x1 4 ∧ am_ob ((43, am_sh, C, F) : aW) 33 3 (am_At (d + 1) 0 none Post 19 [some (.ref 21), some (.int (x1 + (1 : Int32)))] [] ((43, am_sh, C, (am_uF F 22 x1.toNatClampNeg (some 33))) : aW) (21, 1982))) : am_At (d + 1) 0 none Post 36 [some (.ref 21), some (.int x1)] [.ref 33, .int x1, .ref 22] ((43, am_sh, C, F) : aW) (21, 1982) := am_wp_ok (stops := [9, 19, 32, 36]) am_k0 400 _ _ _ _ _ h
set_option maxRecDepth 100000 in
theorem z_H_19_43 {d : Nat} {Post : Option Value → aW → Prop} {C : Nat → Nat → Int32} {F : Nat → Nat → Option Nat} {x1 : Int32} (h : ((4 : Int32) ≤ x1 → (Post none ((43, am_sh, C, (am_uF F 21 0 (some 22))) : aW))) ∧ (¬ (4 : Int32) ≤ x1 → am_At (d + 1) 0 none Post 32 [some (.ref 21), some (.int x1)] [.ref 43, .int x1, .ref 22] (am_wN ((43, am_sh, C, (am_uF F 21 0 (some 22))) : aW) (0, 3)) (22, 1993))) : am_At (d + 1) 0 none Post 19 [some (.ref 21), some (.int x1)] [] ((43, am_sh, C, (am_uF F 21 0 (some 22))) : aW) (21, 1982) := am_wp_ok (stops := [9, 19, 32, 36]) am_k0 400 _ _ _ _ _ h
set_option maxRecDepth 100000 in
theorem z_H_32_44 {d : Nat} {Post : Option Value → aW → Prop} {C : Nat → Nat → Int32} {F : Nat → Nat → Option Nat} {x1 : Int32} (h : am_Cv d 30 [.ref 43] ((44, am_sh, C, F) : aW) (fun w1 => am_At (d + 1) 0 none Post 36 [some (.ref 21), some (.int x1)] [.ref 43, .int x1, .ref 22] w1 (31, 2971))) : am_At (d + 1) 0 none Post 32 [some (.ref 21), some (.int x1)] [.ref 43, .int x1, .ref 22] ((44, am_sh, C, F) : aW) (22, 1993) := am_wp_ok (stops := [9, 19, 32, 36]) am_k0 400 _ _ _ _ _ h
set_option maxRecDepth 100000 in
theorem z_H_36_53 {d : Nat} {Post : Option Value → aW → Prop} {C : Nat → Nat → Int32} {F : Nat → Nat → Option Nat} {x1 : Int32} (h : vp_in x1 4 ∧ am_ob ((53, am_sh, C, F) : aW) 43 3 (am_At (d + 1) 0 none Post 19 [some (.ref 21), some (.int (x1 + (1 : Int32)))] [] ((53, am_sh, C, (am_uF F 22 x1.toNatClampNeg (some 43))) : aW) (31, 2971))) : am_At (d + 1) 0 none Post 36 [some (.ref 21), some (.int x1)] [.ref 43, .int x1, .ref 22] ((53, am_sh, C, F) : aW) (31, 2971) := am_wp_ok (stops := [9, 19, 32, 36]) am_k0 400 _ _ _ _ _ h
set_option maxRecDepth 100000 in
theorem z_H_19_53 {d : Nat} {Post : Option Value → aW → Prop} {C : Nat → Nat → Int32} {F : Nat → Nat → Option Nat} {x1 : Int32} (h : ((4 : Int32) ≤ x1 → (Post none ((53, am_sh, C, (am_uF F 21 0 (some 22))) : aW))) ∧ (¬ (4 : Int32) ≤ x1 → am_At (d + 1) 0 none Post 32 [some (.ref 21), some (.int x1)] [.ref 53, .int x1, .ref 22] (am_wN ((53, am_sh, C, (am_uF F 21 0 (some 22))) : aW) (0, 3)) (32, 2982))) : am_At (d + 1) 0 none Post 19 [some (.ref 21), some (.int x1)] [] ((53, am_sh, C, (am_uF F 21 0 (some 22))) : aW) (31, 2971) := am_wp_ok (stops := [9, 19, 32, 36]) am_k0 400 _ _ _ _ _ h
set_option maxRecDepth 100000 in
theorem z_H_32_54 {d : Nat} {Post : Option Value → aW → Prop} {C : Nat → Nat → Int32} {F : Nat → Nat → Option Nat} {x1 : Int32} (h : am_Cv d 30 [.ref 53] ((54, am_sh, C, F) : aW) (fun w1 => am_At (d + 1) 0 none Post 36 [some (.ref 21), some (.int x1)] [.ref 53, .int x1, .ref 22] w1 (41, 3960))) : am_At (d + 1) 0 none Post 32 [some (.ref 21), some (.int x1)] [.ref 53, .int x1, .ref 22] ((54, am_sh, C, F) : aW) (32, 2982) := am_wp_ok (stops := [9, 19, 32, 36]) am_k0 400 _ _ _ _ _ h
set_option maxRecDepth 100000 in
theorem z_H_36_63 {d : Nat} {Post : Option Value → aW → Prop} {C : Nat → Nat → Int32} {F : Nat → Nat → Option Nat} {x1 : Int32} (h : vp_in x1 4 ∧ am_ob ((63, am_sh, C, F) : aW) 53 3 (am_At (d + 1) 0 none Post 19 [some (.ref 21), some (.int (x1 + (1 : Int32)))] [] ((63, am_sh, C, (am_uF F 22 x1.toNatClampNeg (some 53))) : aW) (41, 3960))) : am_At (d + 1) 0 none Post 36 [some (.ref 21), some (.int x1)] [.ref 53, .int x1, .ref 22] ((63, am_sh, C, F) : aW) (41, 3960) := am_wp_ok (stops := [9, 19, 32, 36]) am_k0 400 _ _ _ _ _ h
set_option maxRecDepth 100000 in
theorem z_H_19_63 {d : Nat} {Post : Option Value → aW → Prop} {C : Nat → Nat → Int32} {F : Nat → Nat → Option Nat} {x1 : Int32} (h : ((4 : Int32) ≤ x1 → Post none ((63, am_sh, C, (am_uF F 21 0 (some 22))) : aW)) ∧ (¬ (4 : Int32) ≤ x1 → (False))) : am_At (d + 1) 0 none Post 19 [some (.ref 21), some (.int x1)] [] ((63, am_sh, C, (am_uF F 21 0 (some 22))) : aW) (41, 3960) := am_wp_ok (stops := [9, 19, 32, 36]) am_k0 400 _ _ _ _ _ h
def hiC (C : Nat → Nat → Int32) : Nat → Nat → Int32 := (stC (stC (stC (stC (am_u2 C 21 1 (0 : Int32)) 23) 33) 43) 53)
def hiF (F : Nat → Nat → Option Nat) : Nat → Nat → Option Nat := (am_uF (am_uF (stF (am_uF (am_uF (stF (am_uF (am_uF (stF (am_uF (am_uF (stF (am_uF (am_uF F 21 0 (some 22)) 21 0 (some 22)) 23) 22 0 (some 23)) 21 0 (some 22)) 33) 22 1 (some 33)) 21 0 (some 22)) 43) 22 2 (some 43)) 21 0 (some 22)) 53) 22 3 (some 53)) 21 0 (some 22))
theorem zU_H {C : Nat → Nat → Int32} (hC : zU C 22) : zU (hiC C) 63 := (zU_S53 (zU_s (zU_S43 (zU_s (zU_S33 (zU_s (zU_S23 (zU_s (zU_u2 (by decide) (zU_s hC))))))))))
theorem zF_H {F : Nat → Nat → Option Nat} (hF : zF F 22) : zF (hiF F) 63 := (zF_uF (by decide) (zF_uF (by decide) (zF_S53 (zF_s (zF_uF (by decide) (zF_uF (by decide) (zF_S43 (zF_s (zF_uF (by decide) (zF_uF (by decide) (zF_S33 (zF_s (zF_uF (by decide) (zF_uF (by decide) (zF_S23 (zF_s (zF_uF (by decide) (zF_uF (by decide) (zF_s hF)))))))))))))))))))
theorem c_H {d : Nat} {C : Nat → Nat → Int32} {F : Nat → Nat → Option Nat} (hC : zU C 22) (hF : zF F 22) : cW (d + 3) 0 [.ref 21] (22, am_sh, C, F) (63, am_sh, hiC C, hiF F) := by
  refine am_meth (am_plain (by decide +kernel)) rfl (by decide) ?_
  refine z_H_0_22 ?_
  refine ⟨rfl, ?_⟩
  refine at_new (M := 23) rfl rfl hC hF ?_
  refine z_H_9_23 ?_
  refine at_ref (i := 21) (kk := 0) (j := 22) rfl ?_
  refine z_H_19_23 ?_
  refine ⟨fun h => absurd h (by decide), fun _ => ?_⟩
  refine at_new (M := 24) rfl rfl (zU_u2 (by decide) (zU_s hC)) (zF_uF (by decide) (zF_uF (by decide) (zF_s hF))) ?_
  refine z_H_32_24 ?_
  refine use_W (c_S23 (zU_s (zU_u2 (by decide) (zU_s hC))) (zF_s (zF_uF (by decide) (zF_uF (by decide) (zF_s hF))))) ?_
  refine z_H_36_33 ?_
  refine ⟨vpi (n := 0) (N := 4) (by decide) (by decide), am_ob_i rfl rfl ?_⟩
  rw [show (0 : Int32).toNatClampNeg = 0 from by decide, show ((0 : Int32) + 1) = 1 from by decide]
  refine at_ref (i := 21) (kk := 0) (j := 22) rfl ?_
  refine z_H_19_33 ?_
  refine ⟨fun h => absurd h (by decide), fun _ => ?_⟩
  refine at_new (M := 34) rfl rfl (zU_S23 (zU_s (zU_u2 (by decide) (zU_s hC)))) (zF_uF (by decide) (zF_uF (by decide) (zF_S23 (zF_s (zF_uF (by decide) (zF_uF (by decide) (zF_s hF))))))) ?_
  refine z_H_32_34 ?_
  refine use_W (c_S33 (zU_s (zU_S23 (zU_s (zU_u2 (by decide) (zU_s hC))))) (zF_s (zF_uF (by decide) (zF_uF (by decide) (zF_S23 (zF_s (zF_uF (by decide) (zF_uF (by decide) (zF_s hF))))))))) ?_
  refine z_H_36_43 ?_
  refine ⟨vpi (n := 1) (N := 4) (by decide) (by decide), am_ob_i rfl rfl ?_⟩
  rw [show (1 : Int32).toNatClampNeg = 1 from by decide, show ((1 : Int32) + 1) = 2 from by decide]
  refine at_ref (i := 21) (kk := 0) (j := 22) rfl ?_
  refine z_H_19_43 ?_
  refine ⟨fun h => absurd h (by decide), fun _ => ?_⟩
  refine at_new (M := 44) rfl rfl (zU_S33 (zU_s (zU_S23 (zU_s (zU_u2 (by decide) (zU_s hC)))))) (zF_uF (by decide) (zF_uF (by decide) (zF_S33 (zF_s (zF_uF (by decide) (zF_uF (by decide) (zF_S23 (zF_s (zF_uF (by decide) (zF_uF (by decide) (zF_s hF))))))))))) ?_
  refine z_H_32_44 ?_
  refine use_W (c_S43 (zU_s (zU_S33 (zU_s (zU_S23 (zU_s (zU_u2 (by decide) (zU_s hC))))))) (zF_s (zF_uF (by decide) (zF_uF (by decide) (zF_S33 (zF_s (zF_uF (by decide) (zF_uF (by decide) (zF_S23 (zF_s (zF_uF (by decide) (zF_uF (by decide) (zF_s hF))))))))))))) ?_
  refine z_H_36_53 ?_
  refine ⟨vpi (n := 2) (N := 4) (by decide) (by decide), am_ob_i rfl rfl ?_⟩
  rw [show (2 : Int32).toNatClampNeg = 2 from by decide, show ((2 : Int32) + 1) = 3 from by decide]
  refine at_ref (i := 21) (kk := 0) (j := 22) rfl ?_
  refine z_H_19_53 ?_
  refine ⟨fun h => absurd h (by decide), fun _ => ?_⟩
  refine at_new (M := 54) rfl rfl (zU_S43 (zU_s (zU_S33 (zU_s (zU_S23 (zU_s (zU_u2 (by decide) (zU_s hC)))))))) (zF_uF (by decide) (zF_uF (by decide) (zF_S43 (zF_s (zF_uF (by decide) (zF_uF (by decide) (zF_S33 (zF_s (zF_uF (by decide) (zF_uF (by decide) (zF_S23 (zF_s (zF_uF (by decide) (zF_uF (by decide) (zF_s hF))))))))))))))) ?_
  refine z_H_32_54 ?_
  refine use_W (c_S53 (zU_s (zU_S43 (zU_s (zU_S33 (zU_s (zU_S23 (zU_s (zU_u2 (by decide) (zU_s hC))))))))) (zF_s (zF_uF (by decide) (zF_uF (by decide) (zF_S43 (zF_s (zF_uF (by decide) (zF_uF (by decide) (zF_S33 (zF_s (zF_uF (by decide) (zF_uF (by decide) (zF_S23 (zF_s (zF_uF (by decide) (zF_uF (by decide) (zF_s hF))))))))))))))))) ?_
  refine z_H_36_63 ?_
  refine ⟨vpi (n := 3) (N := 4) (by decide) (by decide), am_ob_i rfl rfl ?_⟩
  rw [show (3 : Int32).toNatClampNeg = 3 from by decide, show ((3 : Int32) + 1) = 4 from by decide]
  refine at_ref (i := 21) (kk := 0) (j := 22) rfl ?_
  refine z_H_19_63 ?_
  refine ⟨fun _ => ?_, fun h => absurd (by decide) h⟩
  exact ⟨⟨rfl, rfl⟩, rfl⟩
set_option maxRecDepth 100000 in
theorem z_T_0_64 {d : Nat} {Post : Option Value → aW → Prop} {C : Nat → Nat → Int32} {F : Nat → Nat → Option Nat} (h : (60 : Int32) = (60 : Int32) ∧ (am_At (d + 1) 4 none Post 9 [some (.ref 63)] [.ref 64, .ref 63] (am_wN ((64, am_sh, C, F) : aW) (1, 60)) (1, 60))) : am_At (d + 1) 4 none Post 0 [some (.ref 63)] [] ((64, am_sh, C, F) : aW) (0, 0) := am_wp_ok (stops := [9, 22, 30, 38]) am_k4 400 _ _ _ _ _ h
set_option maxRecDepth 100000 in
theorem z_T_9_65 {d : Nat} {Post : Option Value → aW → Prop} {C : Nat → Nat → Int32} {F : Nat → Nat → Option Nat} (h : (7 : Int32) = (7 : Int32) ∧ (am_At (d + 1) 4 none Post 22 [some (.ref 63)] [.ref 65, .ref 63] (am_wN ((65, am_sh, (am_u2 C 63 1 (0 : Int32)), (am_uF F 63 0 (some 64))) : aW) (2, 7)) (2, 67))) : am_At (d + 1) 4 none Post 9 [some (.ref 63)] [.ref 64, .ref 63] ((65, am_sh, C, F) : aW) (1, 60) := am_wp_ok (stops := [9, 22, 30, 38]) am_k4 400 _ _ _ _ _ h
set_option maxRecDepth 100000 in
theorem z_T_22_66 {d : Nat} {Post : Option Value → aW → Prop} {C : Nat → Nat → Int32} {F : Nat → Nat → Option Nat} (h : (7 : Int32) = (7 : Int32) ∧ (am_At (d + 1) 4 none Post 30 [some (.ref 63)] [.ref 66, .ref 63] (am_wN ((66, am_sh, C, (am_uF F 63 2 (some 65))) : aW) (2, 7)) (3, 74))) : am_At (d + 1) 4 none Post 22 [some (.ref 63)] [.ref 65, .ref 63] ((66, am_sh, C, F) : aW) (2, 67) := am_wp_ok (stops := [9, 22, 30, 38]) am_k4 400 _ _ _ _ _ h
set_option maxRecDepth 100000 in
theorem z_T_30_67 {d : Nat} {Post : Option Value → aW → Prop} {C : Nat → Nat → Int32} {F : Nat → Nat → Option Nat} (h : (7 : Int32) = (7 : Int32) ∧ (am_At (d + 1) 4 none Post 38 [some (.ref 63)] [.ref 67, .ref 63] (am_wN ((67, am_sh, C, (am_uF F 63 3 (some 66))) : aW) (2, 7)) (4, 81))) : am_At (d + 1) 4 none Post 30 [some (.ref 63)] [.ref 66, .ref 63] ((67, am_sh, C, F) : aW) (3, 74) := am_wp_ok (stops := [9, 22, 30, 38]) am_k4 400 _ _ _ _ _ h
set_option maxRecDepth 100000 in
theorem z_T_38_68 {d : Nat} {Post : Option Value → aW → Prop} {C : Nat → Nat → Int32} {F : Nat → Nat → Option Nat} (h : Post none ((68, am_sh, (am_u2 (am_u2 C 63 5 (0 : Int32)) 63 6 (0 : Int32)), (am_uF F 63 4 (some 67))) : aW)) : am_At (d + 1) 4 none Post 38 [some (.ref 63)] [.ref 67, .ref 63] ((68, am_sh, C, F) : aW) (4, 81) := am_wp_ok (stops := [9, 22, 30, 38]) am_k4 400 _ _ _ _ _ h
def txC (C : Nat → Nat → Int32) : Nat → Nat → Int32 := (am_u2 (am_u2 (am_u2 C 63 1 (0 : Int32)) 63 5 (0 : Int32)) 63 6 (0 : Int32))
def txF (F : Nat → Nat → Option Nat) : Nat → Nat → Option Nat := (am_uF (am_uF (am_uF (am_uF F 63 0 (some 64)) 63 2 (some 65)) 63 3 (some 66)) 63 4 (some 67))
theorem zU_T {C : Nat → Nat → Int32} (hC : zU C 64) : zU (txC C) 68 := (zU_u2 (by decide) (zU_u2 (by decide) (zU_s (zU_s (zU_s (zU_u2 (by decide) (zU_s hC)))))))
theorem zF_T {F : Nat → Nat → Option Nat} (hF : zF F 64) : zF (txF F) 68 := (zF_uF (by decide) (zF_s (zF_uF (by decide) (zF_s (zF_uF (by decide) (zF_s (zF_uF (by decide) (zF_s hF))))))))
theorem c_T {d : Nat} {C : Nat → Nat → Int32} {F : Nat → Nat → Option Nat} (hC : zU C 64) (hF : zF F 64) : cW (d + 2) 4 [.ref 63] (64, am_sh, C, F) (68, am_sh, txC C, txF F) := by
  refine am_meth (am_plain (by decide +kernel)) rfl (by decide) ?_
  refine z_T_0_64 ?_
  refine ⟨rfl, ?_⟩
  refine at_new (M := 65) rfl rfl hC hF ?_
  refine z_T_9_65 ?_
  refine ⟨rfl, ?_⟩
  refine at_new (M := 66) rfl rfl (zU_u2 (by decide) (zU_s hC)) (zF_uF (by decide) (zF_s hF)) ?_
  refine z_T_22_66 ?_
  refine ⟨rfl, ?_⟩
  refine at_new (M := 67) rfl rfl (zU_s (zU_u2 (by decide) (zU_s hC))) (zF_uF (by decide) (zF_s (zF_uF (by decide) (zF_s hF)))) ?_
  refine z_T_30_67 ?_
  refine ⟨rfl, ?_⟩
  refine at_new (M := 68) rfl rfl (zU_s (zU_s (zU_u2 (by decide) (zU_s hC)))) (zF_uF (by decide) (zF_s (zF_uF (by decide) (zF_s (zF_uF (by decide) (zF_s hF)))))) ?_
  refine z_T_38_68 ?_
  exact ⟨⟨rfl, rfl⟩, rfl⟩
set_option maxRecDepth 100000 in
theorem z_R_0_69 {d : Nat} {Post : Option Value → aW → Prop} {C : Nat → Nat → Int32} {F : Nat → Nat → Option Nat} (h : (6 : Int32) = (6 : Int32) ∧ (am_At (d + 1) 13 none Post 14 [some (.ref 68)] [.ref 69, .ref 68] (am_wN ((69, am_sh, (am_u2 C 68 0 (0 : Int32)), F) : aW) (2, 6)) (1, 6))) : am_At (d + 1) 13 none Post 0 [some (.ref 68)] [] ((69, am_sh, C, F) : aW) (0, 0) := am_wp_ok (stops := [14, 22, 30, 38, 46]) am_k13 400 _ _ _ _ _ h
set_option maxRecDepth 100000 in
theorem z_R_14_70 {d : Nat} {Post : Option Value → aW → Prop} {C : Nat → Nat → Int32} {F : Nat → Nat → Option Nat} (h : (36 : Int32) = (36 : Int32) ∧ (am_At (d + 1) 13 none Post 22 [some (.ref 68)] [.ref 70, .ref 68] (am_wN ((70, am_sh, C, (am_uF F 68 1 (some 69))) : aW) (2, 36)) (2, 42))) : am_At (d + 1) 13 none Post 14 [some (.ref 68)] [.ref 69, .ref 68] ((70, am_sh, C, F) : aW) (1, 6) := am_wp_ok (stops := [14, 22, 30, 38, 46]) am_k13 400 _ _ _ _ _ h
set_option maxRecDepth 100000 in
theorem z_R_22_71 {d : Nat} {Post : Option Value → aW → Prop} {C : Nat → Nat → Int32} {F : Nat → Nat → Option Nat} (h : (36 : Int32) = (36 : Int32) ∧ (am_At (d + 1) 13 none Post 30 [some (.ref 68)] [.ref 71, .ref 68] (am_wN ((71, am_sh, C, (am_uF F 68 2 (some 70))) : aW) (2, 36)) (3, 78))) : am_At (d + 1) 13 none Post 22 [some (.ref 68)] [.ref 70, .ref 68] ((71, am_sh, C, F) : aW) (2, 42) := am_wp_ok (stops := [14, 22, 30, 38, 46]) am_k13 400 _ _ _ _ _ h
set_option maxRecDepth 100000 in
theorem z_R_30_72 {d : Nat} {Post : Option Value → aW → Prop} {C : Nat → Nat → Int32} {F : Nat → Nat → Option Nat} (h : (36 : Int32) = (36 : Int32) ∧ (am_At (d + 1) 13 none Post 38 [some (.ref 68)] [.ref 72, .ref 68] (am_wN ((72, am_sh, C, (am_uF F 68 3 (some 71))) : aW) (2, 36)) (4, 114))) : am_At (d + 1) 13 none Post 30 [some (.ref 68)] [.ref 71, .ref 68] ((72, am_sh, C, F) : aW) (3, 78) := am_wp_ok (stops := [14, 22, 30, 38, 46]) am_k13 400 _ _ _ _ _ h
set_option maxRecDepth 100000 in
theorem z_R_38_73 {d : Nat} {Post : Option Value → aW → Prop} {C : Nat → Nat → Int32} {F : Nat → Nat → Option Nat} (h : (6 : Int32) = (6 : Int32) ∧ (am_At (d + 1) 13 none Post 46 [some (.ref 68)] [.ref 73, .ref 68] (am_wN ((73, am_sh, C, (am_uF F 68 4 (some 72))) : aW) (2, 6)) (5, 120))) : am_At (d + 1) 13 none Post 38 [some (.ref 68)] [.ref 72, .ref 68] ((73, am_sh, C, F) : aW) (4, 114) := am_wp_ok (stops := [14, 22, 30, 38, 46]) am_k13 400 _ _ _ _ _ h
set_option maxRecDepth 100000 in
theorem z_R_46_74 {d : Nat} {Post : Option Value → aW → Prop} {C : Nat → Nat → Int32} {F : Nat → Nat → Option Nat} (h : Post none ((74, am_sh, C, (am_uF F 68 5 (some 73))) : aW)) : am_At (d + 1) 13 none Post 46 [some (.ref 68)] [.ref 73, .ref 68] ((74, am_sh, C, F) : aW) (5, 120) := am_wp_ok (stops := [14, 22, 30, 38, 46]) am_k13 400 _ _ _ _ _ h
def rkC (C : Nat → Nat → Int32) : Nat → Nat → Int32 := (am_u2 C 68 0 (0 : Int32))
def rkF (F : Nat → Nat → Option Nat) : Nat → Nat → Option Nat := (am_uF (am_uF (am_uF (am_uF (am_uF F 68 1 (some 69)) 68 2 (some 70)) 68 3 (some 71)) 68 4 (some 72)) 68 5 (some 73))
theorem zU_R {C : Nat → Nat → Int32} (hC : zU C 69) : zU (rkC C) 74 := (zU_s (zU_s (zU_s (zU_s (zU_s (zU_u2 (by decide) hC))))))
theorem zF_R {F : Nat → Nat → Option Nat} (hF : zF F 69) : zF (rkF F) 74 := (zF_uF (by decide) (zF_s (zF_uF (by decide) (zF_s (zF_uF (by decide) (zF_s (zF_uF (by decide) (zF_s (zF_uF (by decide) (zF_s hF))))))))))
theorem c_R {d : Nat} {C : Nat → Nat → Int32} {F : Nat → Nat → Option Nat} (hC : zU C 69) (hF : zF F 69) : cW (d + 2) 13 [.ref 68] (69, am_sh, C, F) (74, am_sh, rkC C, rkF F) := by
  refine am_meth (am_plain (by decide +kernel)) rfl (by decide) ?_
  refine z_R_0_69 ?_
  refine ⟨rfl, ?_⟩
  refine at_new (M := 70) rfl rfl (zU_u2 (by decide) hC) hF ?_
  refine z_R_14_70 ?_
  refine ⟨rfl, ?_⟩
  refine at_new (M := 71) rfl rfl (zU_s (zU_u2 (by decide) hC)) (zF_uF (by decide) (zF_s hF)) ?_
  refine z_R_22_71 ?_
  refine ⟨rfl, ?_⟩
  refine at_new (M := 72) rfl rfl (zU_s (zU_s (zU_u2 (by decide) hC))) (zF_uF (by decide) (zF_s (zF_uF (by decide) (zF_s hF)))) ?_
  refine z_R_30_72 ?_
  refine ⟨rfl, ?_⟩
  refine at_new (M := 73) rfl rfl (zU_s (zU_s (zU_s (zU_u2 (by decide) hC)))) (zF_uF (by decide) (zF_s (zF_uF (by decide) (zF_s (zF_uF (by decide) (zF_s hF)))))) ?_
  refine z_R_38_73 ?_
  refine ⟨rfl, ?_⟩
  refine at_new (M := 74) rfl rfl (zU_s (zU_s (zU_s (zU_s (zU_u2 (by decide) hC))))) (zF_uF (by decide) (zF_s (zF_uF (by decide) (zF_s (zF_uF (by decide) (zF_s (zF_uF (by decide) (zF_s hF)))))))) ?_
  refine z_R_46_74 ?_
  exact ⟨⟨rfl, rfl⟩, rfl⟩
set_option maxRecDepth 100000 in
theorem z_F_0_1 {d : Nat} {Post : Option Value → aW → Prop} {C : Nat → Nat → Int32} {F : Nat → Nat → Option Nat} (h : am_At (d + 1) 50 none Post 8 [some (.ref 0)] [.ref 1, .ref 0] (am_wN ((1, am_sh, C, F) : aW) (0, 3)) (1, 11)) : am_At (d + 1) 50 none Post 0 [some (.ref 0)] [] ((1, am_sh, C, F) : aW) (0, 0) := am_wp_ok (stops := [8, 12, 19, 23, 35, 39, 46, 50, 57, 61]) am_k50 400 _ _ _ _ _ h
set_option maxRecDepth 100000 in
theorem z_F_8_2 {d : Nat} {Post : Option Value → aW → Prop} {C : Nat → Nat → Int32} {F : Nat → Nat → Option Nat} (h : am_Cv d 30 [.ref 1] ((2, am_sh, C, F) : aW) (fun w1 => am_At (d + 1) 50 none Post 12 [some (.ref 0)] [.ref 1, .ref 0] w1 (10, 989))) : am_At (d + 1) 50 none Post 8 [some (.ref 0)] [.ref 1, .ref 0] ((2, am_sh, C, F) : aW) (1, 11) := am_wp_ok (stops := [8, 12, 19, 23, 35, 39, 46, 50, 57, 61]) am_k50 400 _ _ _ _ _ h
set_option maxRecDepth 100000 in
theorem z_F_12_11 {d : Nat} {Post : Option Value → aW → Prop} {C : Nat → Nat → Int32} {F : Nat → Nat → Option Nat} (h : am_At (d + 1) 50 none Post 19 [some (.ref 0)] [.ref 11, .ref 0] (am_wN ((11, am_sh, C, (am_uF F 0 0 (some 1))) : aW) (0, 3)) (11, 1000)) : am_At (d + 1) 50 none Post 12 [some (.ref 0)] [.ref 1, .ref 0] ((11, am_sh, C, F) : aW) (10, 989) := am_wp_ok (stops := [8, 12, 19, 23, 35, 39, 46, 50, 57, 61]) am_k50 400 _ _ _ _ _ h
set_option maxRecDepth 100000 in
theorem z_F_19_12 {d : Nat} {Post : Option Value → aW → Prop} {C : Nat → Nat → Int32} {F : Nat → Nat → Option Nat} (h : am_Cv d 30 [.ref 11] ((12, am_sh, C, F) : aW) (fun w1 => am_At (d + 1) 50 none Post 23 [some (.ref 0)] [.ref 11, .ref 0] w1 (20, 1978))) : am_At (d + 1) 50 none Post 19 [some (.ref 0)] [.ref 11, .ref 0] ((12, am_sh, C, F) : aW) (11, 1000) := am_wp_ok (stops := [8, 12, 19, 23, 35, 39, 46, 50, 57, 61]) am_k50 400 _ _ _ _ _ h
set_option maxRecDepth 100000 in
theorem z_F_23_21 {d : Nat} {Post : Option Value → aW → Prop} {C : Nat → Nat → Int32} {F : Nat → Nat → Option Nat} (h : ((0 : Int32) = 0 ∨ (0 : Int32) = 1) ∧ (am_At (d + 1) 50 none Post 35 [some (.ref 0)] [.ref 21, .ref 0] (am_wN ((21, am_sh, (am_u2 C 0 2 (0 : Int32)), (am_uF F 0 1 (some 11))) : aW) (0, 0)) (21, 1980))) : am_At (d + 1) 50 none Post 23 [some (.ref 0)] [.ref 11, .ref 0] ((21, am_sh, C, F) : aW) (20, 1978) := am_wp_ok (stops := [8, 12, 19, 23, 35, 39, 46, 50, 57, 61]) am_k50 400 _ _ _ _ _ h
set_option maxRecDepth 100000 in
theorem z_F_35_22 {d : Nat} {Post : Option Value → aW → Prop} {C : Nat → Nat → Int32} {F : Nat → Nat → Option Nat} (h : am_Cv d 0 [.ref 21] ((22, am_sh, C, F) : aW) (fun w1 => am_At (d + 1) 50 none Post 39 [some (.ref 0)] [.ref 21, .ref 0] w1 (62, 5940))) : am_At (d + 1) 50 none Post 35 [some (.ref 0)] [.ref 21, .ref 0] ((22, am_sh, C, F) : aW) (21, 1980) := am_wp_ok (stops := [8, 12, 19, 23, 35, 39, 46, 50, 57, 61]) am_k50 400 _ _ _ _ _ h
set_option maxRecDepth 100000 in
theorem z_F_39_63 {d : Nat} {Post : Option Value → aW → Prop} {C : Nat → Nat → Int32} {F : Nat → Nat → Option Nat} (h : am_At (d + 1) 50 none Post 46 [some (.ref 0)] [.ref 63, .ref 0] (am_wN ((63, am_sh, C, (am_uF F 0 3 (some 21))) : aW) (0, 1)) (63, 5947)) : am_At (d + 1) 50 none Post 39 [some (.ref 0)] [.ref 21, .ref 0] ((63, am_sh, C, F) : aW) (62, 5940) := am_wp_ok (stops := [8, 12, 19, 23, 35, 39, 46, 50, 57, 61]) am_k50 400 _ _ _ _ _ h
set_option maxRecDepth 100000 in
theorem z_F_46_64 {d : Nat} {Post : Option Value → aW → Prop} {C : Nat → Nat → Int32} {F : Nat → Nat → Option Nat} (h : am_Cv d 4 [.ref 63] ((64, am_sh, C, F) : aW) (fun w1 => am_At (d + 1) 50 none Post 50 [some (.ref 0)] [.ref 63, .ref 0] w1 (67, 6028))) : am_At (d + 1) 50 none Post 46 [some (.ref 0)] [.ref 63, .ref 0] ((64, am_sh, C, F) : aW) (63, 5947) := am_wp_ok (stops := [8, 12, 19, 23, 35, 39, 46, 50, 57, 61]) am_k50 400 _ _ _ _ _ h
set_option maxRecDepth 100000 in
theorem z_F_50_68 {d : Nat} {Post : Option Value → aW → Prop} {C : Nat → Nat → Int32} {F : Nat → Nat → Option Nat} (h : am_At (d + 1) 50 none Post 57 [some (.ref 0)] [.ref 68, .ref 0] (am_wN ((68, am_sh, C, (am_uF F 0 4 (some 63))) : aW) (0, 2)) (68, 6034)) : am_At (d + 1) 50 none Post 50 [some (.ref 0)] [.ref 63, .ref 0] ((68, am_sh, C, F) : aW) (67, 6028) := am_wp_ok (stops := [8, 12, 19, 23, 35, 39, 46, 50, 57, 61]) am_k50 400 _ _ _ _ _ h
set_option maxRecDepth 100000 in
theorem z_F_57_69 {d : Nat} {Post : Option Value → aW → Prop} {C : Nat → Nat → Int32} {F : Nat → Nat → Option Nat} (h : am_Cv d 13 [.ref 68] ((69, am_sh, C, F) : aW) (fun w1 => am_At (d + 1) 50 none Post 61 [some (.ref 0)] [.ref 68, .ref 0] w1 (73, 6154))) : am_At (d + 1) 50 none Post 57 [some (.ref 0)] [.ref 68, .ref 0] ((69, am_sh, C, F) : aW) (68, 6034) := am_wp_ok (stops := [8, 12, 19, 23, 35, 39, 46, 50, 57, 61]) am_k50 400 _ _ _ _ _ h
set_option maxRecDepth 100000 in
theorem z_F_61_74 {d : Nat} {Post : Option Value → aW → Prop} {C : Nat → Nat → Int32} {F : Nat → Nat → Option Nat} (h : Post none ((74, am_sh, C, (am_uF F 0 5 (some 68))) : aW)) : am_At (d + 1) 50 none Post 61 [some (.ref 0)] [.ref 68, .ref 0] ((74, am_sh, C, F) : aW) (73, 6154) := am_wp_ok (stops := [8, 12, 19, 23, 35, 39, 46, 50, 57, 61]) am_k50 400 _ _ _ _ _ h
def faC (C : Nat → Nat → Int32) : Nat → Nat → Int32 := (rkC (txC (hiC (am_u2 (stC (stC C 1) 11) 0 2 (0 : Int32)))))
def faF (F : Nat → Nat → Option Nat) : Nat → Nat → Option Nat := (am_uF (rkF (am_uF (txF (am_uF (hiF (am_uF (stF (am_uF (stF F 1) 0 0 (some 1)) 11) 0 1 (some 11))) 0 3 (some 21))) 0 4 (some 63))) 0 5 (some 68))
theorem zU_F {C : Nat → Nat → Int32} (hC : zU C 1) : zU (faC C) 74 := (zU_R (zU_s (zU_T (zU_s (zU_H (zU_s (zU_u2 (by decide) (zU_S11 (zU_s (zU_S1 (zU_s hC)))))))))))
theorem zF_F {F : Nat → Nat → Option Nat} (hF : zF F 1) : zF (faF F) 74 := (zF_uF (by decide) (zF_R (zF_s (zF_uF (by decide) (zF_T (zF_s (zF_uF (by decide) (zF_H (zF_s (zF_uF (by decide) (zF_S11 (zF_s (zF_uF (by decide) (zF_S1 (zF_s hF)))))))))))))))
theorem c_F {d : Nat} {C : Nat → Nat → Int32} {F : Nat → Nat → Option Nat} (hC : zU C 1) (hF : zF F 1) : cW (d + 4) 50 [.ref 0] (1, am_sh, C, F) (74, am_sh, faC C, faF F) := by
  refine am_meth (am_plain (by decide +kernel)) rfl (by decide) ?_
  refine z_F_0_1 ?_
  refine at_new (M := 2) rfl rfl hC hF ?_
  refine z_F_8_2 ?_
  refine use_W (c_S1 (zU_s hC) (zF_s hF)) ?_
  refine z_F_12_11 ?_
  refine at_new (M := 12) rfl rfl (zU_S1 (zU_s hC)) (zF_uF (by decide) (zF_S1 (zF_s hF))) ?_
  refine z_F_19_12 ?_
  refine use_W (c_S11 (zU_s (zU_S1 (zU_s hC))) (zF_s (zF_uF (by decide) (zF_S1 (zF_s hF))))) ?_
  refine z_F_23_21 ?_
  refine ⟨Or.inl rfl, ?_⟩
  refine at_new (M := 22) rfl rfl (zU_u2 (by decide) (zU_S11 (zU_s (zU_S1 (zU_s hC))))) (zF_uF (by decide) (zF_S11 (zF_s (zF_uF (by decide) (zF_S1 (zF_s hF)))))) ?_
  refine z_F_35_22 ?_
  refine use_W (c_H (zU_s (zU_u2 (by decide) (zU_S11 (zU_s (zU_S1 (zU_s hC)))))) (zF_s (zF_uF (by decide) (zF_S11 (zF_s (zF_uF (by decide) (zF_S1 (zF_s hF)))))))) ?_
  refine z_F_39_63 ?_
  refine at_new (M := 64) rfl rfl (zU_H (zU_s (zU_u2 (by decide) (zU_S11 (zU_s (zU_S1 (zU_s hC))))))) (zF_uF (by decide) (zF_H (zF_s (zF_uF (by decide) (zF_S11 (zF_s (zF_uF (by decide) (zF_S1 (zF_s hF))))))))) ?_
  refine z_F_46_64 ?_
  refine use_W (c_T (zU_s (zU_H (zU_s (zU_u2 (by decide) (zU_S11 (zU_s (zU_S1 (zU_s hC)))))))) (zF_s (zF_uF (by decide) (zF_H (zF_s (zF_uF (by decide) (zF_S11 (zF_s (zF_uF (by decide) (zF_S1 (zF_s hF))))))))))) ?_
  refine z_F_50_68 ?_
  refine at_new (M := 69) rfl rfl (zU_T (zU_s (zU_H (zU_s (zU_u2 (by decide) (zU_S11 (zU_s (zU_S1 (zU_s hC))))))))) (zF_uF (by decide) (zF_T (zF_s (zF_uF (by decide) (zF_H (zF_s (zF_uF (by decide) (zF_S11 (zF_s (zF_uF (by decide) (zF_S1 (zF_s hF)))))))))))) ?_
  refine z_F_57_69 ?_
  refine use_W (c_R (zU_s (zU_T (zU_s (zU_H (zU_s (zU_u2 (by decide) (zU_S11 (zU_s (zU_S1 (zU_s hC)))))))))) (zF_s (zF_uF (by decide) (zF_T (zF_s (zF_uF (by decide) (zF_H (zF_s (zF_uF (by decide) (zF_S11 (zF_s (zF_uF (by decide) (zF_S1 (zF_s hF)))))))))))))) ?_
  refine z_F_61_74 ?_
  exact ⟨⟨rfl, rfl⟩, rfl⟩
