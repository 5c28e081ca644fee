/-! THE LAW FROM ITS ENTRY TO ITS LOOP -/
set_option maxRecDepth 100000 in
theorem z_L_0_0 {d : Nat} {Post : Option Value → aW → Prop} {C : Nat → Nat → Int32} {F : Nat → Nat → Option Nat} {L : Nat} {xs : Nat → Int32} (h : am_At (d + 1) 173 (some (L, xs)) Post 3 [some (.retAddr 0), none, none, none, none, none, none, none, none] [.ref 0] (am_wN ((0, am_sh, C, F) : aW) (0, 4)) (1, 6)) : am_At (d + 1) 173 (some (L, xs)) Post 0 [some (.retAddr 0), none, none, none, none, none, none, none, none] [] ((0, am_sh, C, F) : aW) (0, 0) := am_wp_ok (stops := [3, 7, 8]) am_k173 400 _ _ _ _ _ h
set_option maxRecDepth 100000 in
theorem z_L_3_1 {d : Nat} {Post : Option Value → aW → Prop} {C : Nat → Nat → Int32} {F : Nat → Nat → Option Nat} {L : Nat} {xs : Nat → Int32} (h : am_Cv d 50 [.ref 0] ((1, am_sh, C, F) : aW) (fun w1 => am_At (d + 1) 173 (some (L, xs)) Post 7 [some (.retAddr 0), none, none, none, none, none, none, none, none] [.ref 0] w1 (74, 6160))) : am_At (d + 1) 173 (some (L, xs)) Post 3 [some (.retAddr 0), none, none, none, none, none, none, none, none] [.ref 0] ((1, am_sh, C, F) : aW) (1, 6) := am_wp_ok (stops := [3, 7, 8]) am_k173 400 _ _ _ _ _ h
set_option maxRecDepth 100000 in
theorem z_L_7_74 {d : Nat} {Post : Option Value → aW → Prop} {C : Nat → Nat → Int32} {F : Nat → Nat → Option Nat} {L : Nat} {xs : Nat → Int32} (h : am_At (d + 1) 173 (some (L, xs)) Post 8 [some (.retAddr 0), some (.ref 0), none, none, none, none, none, none, none] [] ((74, am_sh, C, F) : aW) (74, 6160)) : am_At (d + 1) 173 (some (L, xs)) Post 7 [some (.retAddr 0), none, none, none, none, none, none, none, none] [.ref 0] ((74, am_sh, C, F) : aW) (74, 6160) := am_wp_ok (stops := [3, 7, 8]) am_k173 400 _ _ _ _ _ h
theorem law_start {L : Nat} {xs : Nat → Int32} {Post : Option Value → aW → Prop} {C : Nat → Nat → Int32} {F : Nat → Nat → Option Nat} (hC : zU C 0) (hF : zF F 0) (h : am_At 10 173 (some (L, xs)) Post 8 [some (.retAddr 0), some (.ref 0), none, none, none, none, none, none, none] [] ((74, am_sh, (faC C), (faF F)) : aW) (74, 6160)) : am_At 10 173 (some (L, xs)) Post 0 [some (.retAddr 0), none, none, none, none, none, none, none, none] [] ((0, am_sh, C, F) : aW) (0, 0) := by
  refine z_L_0_0 ?_
  refine at_new (M := 1) rfl rfl hC hF ?_
  refine z_L_3_1 ?_
  refine use_W (c_F (zU_s hC) (zF_s hF)) ?_
  refine z_L_7_74 ?_
  exact h
def c0C : Nat → Nat → Int32 := faC (fun _ _ => 0)
def c0F : Nat → Nat → Option Nat := faF (fun _ _ => none)
theorem zB_uF {F : Nat → Nat → Option Nat} {i k : Nat} {x : Option Nat} (hk : k < 12) (h : ∀ a b, 12 ≤ b → F a b = none) : ∀ a b, 12 ≤ b → am_uF F i k x a b = none := by
  intro a b hb
  unfold am_uF
  by_cases ha : a = i
  · rw [if_pos ha, if_neg (by omega)]
    exact h a b hb
  · rw [if_neg ha]
    exact h a b hb
theorem c0F_B : ∀ a b, 12 ≤ b → c0F a b = none := by
  simp only [c0F, faF, rkF, txF, hiF, stF]
  repeat (refine zB_uF (by decide) ?_)
  exact fun _ _ _ => rfl
theorem am_ft_74 {a : Nat} (h : 74 ≤ a) : am_ft a = [] := by
  unfold am_ft
  split <;> first | rfl | omega
theorem am_ft_len : ∀ a, a < 74 → (am_ft a).length ≤ 12 := by decide +kernel
theorem c0F_in : ∀ a, a < 74 → ∀ b, b < 12 → c0F a b = am_F (c0F 22) a b := by decide +kernel
theorem c0F_eq : c0F = am_F (c0F 22) := by
  funext a b
  by_cases h74 : 74 ≤ a
  · have e1 : c0F a = fun _ => none := zF_F (zF_s (fun _ _ => rfl)) a h74
    have e2 : Nat.beq a 22 = false := by
      cases h : Nat.beq a 22 with
      | false => rfl
      | true => exact absurd (Nat.eq_of_beq_eq_true h) (by omega)
    rw [e1]
    unfold am_F
    rw [e2, am_ft_74 h74]
    rfl
  · by_cases hb : b < 12
    · exact c0F_in a (by omega) b hb
    · rw [c0F_B a b (by omega)]
      unfold am_F
      cases h : Nat.beq a 22 with
      | true => exact (c0F_B 22 b (by omega)).symm
      | false =>
        show none = (am_ft a).getD b none
        have := am_ft_len a (by omega)
        rw [List.getD_eq_getElem?_getD, List.getElem?_eq_none (by omega)]
        rfl
theorem v_5 : ∀ t, t < 6 → c0C 5 t = 100 := by decide +kernel
theorem v_234 : ∀ u, u < 4 → c0C 2 u = 0 ∧ c0C 3 u = 0 ∧ c0C 4 u = 0 := by decide +kernel
theorem v_67 : ∀ r, r < 48 → c0C 6 r = 0 ∧ c0C 7 r = -1 := by decide +kernel
theorem v_1 : c0C 1 0 = 0 ∧ c0C 1 1 = 20 ∧ c0C 0 2 = 0 ∧ c0C 21 1 = 0 ∧ c0C 63 1 = 0 := by decide +kernel
theorem v_10 : c0C 10 = fun _ => 0 := rfl
theorem v_32 : c0C 32 = fun _ => 0 := rfl
theorem v_42 : c0C 42 = fun _ => 0 := rfl
theorem v_52 : c0C 52 = fun _ => 0 := rfl
theorem v_62 : c0C 62 = fun _ => 0 := rfl
theorem v_64 : c0C 64 = fun _ => 0 := rfl
theorem v_22 : ∀ i, i < 4 → c0F 22 i = some (23 + 10 * i) := by decide +kernel
def cA0 : aS := (0, 20, fun _ => 100, fun _ => 0, fun _ => 0, fun _ => 0, fun _ => f0)
def cG0 : aGl := (cA0, false, cA0, (0, fun _ => cA0), (0, fun _ => 0))
theorem rg_20 : rg 1 600 20 := by
  unfold rg
  decide
theorem rg_100 : rg 1 9999 100 := by
  unfold rg
  decide
theorem rg_0 : rg 0 99 0 ∧ rg 0 23 0 := by
  unfold rg
  decide
theorem fok_0 : fok f0 := ⟨Nat.zero_le _, fun h => absurd rfl h, fun k hk => absurd hk (Nat.not_lt_zero k), fun k hk => absurd hk (Nat.not_lt_zero k), fun j _ hj _ _ => absurd hj (Nat.not_lt_zero j)⟩
theorem good_0 : good cA0 := ⟨Nat.zero_le _, rg_20, fun _ _ => rg_100, fun _ _ => ⟨Nat.zero_le _, rg_0.1, rg_0.2⟩, fun _ _ => fok_0, fun _ _ _ => ⟨rfl, rfl, rfl⟩, fun _ _ _ _ _ _ _ => rfl⟩
theorem gG_0 : gG cG0 := ⟨good_0, fun h => (by cases h), Nat.zero_le _, fun i hi => absurd hi (Nat.not_lt_zero i), Nat.zero_le _⟩
theorem sees_0 : sees 1 c0C cA0 := by
  refine ⟨v_1.1, v_1.2.1, fun t ht => v_5 t ht, fun u hu => (v_234 u hu).1, fun u hu => (v_234 u hu).2.1, fun u hu => (v_234 u hu).2.2, fun row hr => ?_, fun i _ => Or.inl (congrFun v_10 i)⟩
  obtain ⟨h6, h7⟩ := v_67 row hr
  refine ⟨h6, ?_⟩
  have hc : ∀ f : Nat → Int32, cut 0 f = fun _ => 0 := fun f => by
    funext k
    exact if_neg (Nat.not_lt_zero k)
  show fS 1 c0C row = f0
  unfold fS
  rw [show c0C (1 + 5) row = 0 from h6, show c0C (1 + 6) row = -1 from h7, show ((0 : Int32).toNatClampNeg) = 0 from rfl, hc, hc, hc]
  rfl
theorem seeG_0 : seeG c0C (c0F 22) cG0 := by
  refine ⟨sees_0, v_1.2.2.1, fun h => (by cases h), ⟨v_1.2.2.2.1, Nat.zero_le _⟩, v_1.2.2.2.2, v_64, fun j hj i _ => Or.inl ?_, fun i => 23 + 10 * i, ⟨fun i hi => ⟨v_22 i hi, ?_⟩, fun i j hi hj h => ?_⟩, fun i hi => absurd hi (Nat.not_lt_zero i)⟩
  · rcases hj with rfl | rfl | rfl | rfl
    · exact congrFun v_32 i
    · exact congrFun v_42 i
    · exact congrFun v_52 i
    · exact congrFun v_62 i
  · show 23 + 10 * i = 23 ∨ 23 + 10 * i = 33 ∨ 23 + 10 * i = 43 ∨ 23 + 10 * i = 53
    omega
  · have h' : 23 + 10 * i = 23 + 10 * j := h
    omega
theorem w0_eq : ((74, am_sh, faC (fun _ _ => 0), faF (fun _ _ => none)) : aW) = am_w 0 c0C (c0F 22) := by
  show ((74, am_sh, c0C, c0F) : aW) = (74, am_sh, c0C, am_F (c0F 22))
  rw [← c0F_eq]
