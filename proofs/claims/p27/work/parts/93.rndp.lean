/-! isRoundSo: the sets that it gathers, and its own two rows -/
variable {zN : Nat}
theorem am_sh_hi {j : Nat} (h : 74 ≤ j) : am_sh j = (2, 2) := by
  unfold am_sh
  rw [List.getD_eq_getElem?_getD, List.getElem?_eq_none (by have : am_shL.length = 74 := by decide
                                                            omega)]
  rfl
theorem am_F_hi {p : Nat → Option Nat} {j : Nat} (h : 74 ≤ j) : am_F p j = fun _ => none := by
  funext k
  have e2 : Nat.beq j 22 = false := by
    cases e : Nat.beq j 22 with
    | false => rfl
    | true => exact absurd (Nat.eq_of_beq_eq_true e) (by omega)
  unfold am_F
  rw [e2, am_ft_74 h]
  rfl
theorem blt_hi {j : Nat} (h : j < zN + 74) : Nat.blt j (zN + 74) = true := by
  rw [Nat.blt_eq]
  exact h
theorem wN_hi {C : Nat → Nat → Int32} {p : Nat → Option Nat} : am_wN (am_w zN C p) (2, 2) = am_w (zN + 1) (am_uR C (zN + 74) (fun _ => 0)) p := by
  have e1 : am_uS am_sh (zN + 74) (2, 2) = am_sh := by
    funext a
    unfold am_uS
    by_cases h : a = zN + 74
    · rw [if_pos h, h, am_sh_hi (by omega)]
    · rw [if_neg h]
  have e3 : am_uR (am_F p) (zN + 74) (fun _ => none) = am_F p := by
    funext a
    unfold am_uR
    by_cases h : a = zN + 74
    · rw [if_pos h, h, am_F_hi (by omega)]
    · rw [if_neg h]
  show (zN + 74 + 1, am_uS am_sh (zN + 74) (2, 2), am_uR C (zN + 74) (fun _ => 0), am_uR (am_F p) (zN + 74) (fun _ => none)) = (zN + 1 + 74, am_sh, am_uR C (zN + 74) (fun _ => 0), am_F p)
  rw [e1, e3, show zN + 74 + 1 = zN + 1 + 74 by omega]
theorem am_ar_hi {C : Nat → Nat → Int32} {p : Nat → Option Nat} {j : Nat} {f : Nat → Prop} (h1 : 74 ≤ j) (h2 : j < zN + 74) (h : f 2) : am_ar (am_w zN C p) j 1 f := am_ar_i (blt_hi h2) (am_sh_hi h1) h
section
variable {d : Nat} {Post : Option Value → aW → Prop} {C : Nat → Nat → Int32} {p : Nat → Option Nat} {lc : aL} {r : List Value} {u : Nat × Nat} {j f : Nat} {y : Int32}
set_option maxRecDepth 100000 in
theorem n15' (h : (2 : Int32) = 2 ∧ am_At (d + 1) 170 none Post 17 lc (.ref (zN + 74) :: r) (am_wN (am_w zN C p) (2, 2)) (1, 2)) : am_At (d + 1) 170 none Post 15 lc (.int (2 : Int32) :: r) (am_w zN C p) (0, 0) := am_wp_ok (stops := [17]) am_k170 1 _ _ _ _ _ h
theorem n15 (h : am_At (d + 1) 170 none Post 17 lc (.ref (zN + 74) :: r) (am_w (zN + 1) (am_uR C (zN + 74) (fun _ => 0)) p) (1, 2)) : am_At (d + 1) 170 none Post 15 lc (.int (2 : Int32) :: r) (am_w zN C p) (0, 0) := n15' ⟨rfl, by rw [wN_hi]; exact h⟩
set_option maxRecDepth 100000 in
theorem n20' (h : (2 : Int32) = 2 ∧ am_At (d + 1) 170 none Post 22 lc (.ref (zN + 74) :: r) (am_wN (am_w zN C p) (2, 2)) (2, 4)) : am_At (d + 1) 170 none Post 20 lc (.int (2 : Int32) :: r) (am_w zN C p) (1, 2) := am_wp_ok (stops := [22]) am_k170 1 _ _ _ _ _ h
theorem n20 (h : am_At (d + 1) 170 none Post 22 lc (.ref (zN + 74) :: r) (am_w (zN + 1) (am_uR C (zN + 74) (fun _ => 0)) p) (2, 4)) : am_At (d + 1) 170 none Post 20 lc (.int (2 : Int32) :: r) (am_w zN C p) (1, 2) := n20' ⟨rfl, by rw [wN_hi]; exact h⟩
set_option maxRecDepth 100000 in
theorem l133' {i : Int32} (h : am_ar (am_w zN C p) j 1 (fun n => vp_in i n ∧ am_At (d + 1) 170 none Post 134 lc (.int (C j i.toNatClampNeg) :: r) (am_w zN C p) u)) : am_At (d + 1) 170 none Post 133 lc (.int i :: .ref j :: r) (am_w zN C p) u := am_wp_ok (stops := [134]) am_k170 1 _ _ _ _ _ h
theorem l133 (h1 : 74 ≤ j) (h2 : j < zN + 74) (hf : f < 2) (h : am_At (d + 1) 170 none Post 134 lc (.int (C j f) :: r) (am_w zN C p) u) : am_At (d + 1) 170 none Post 133 lc (.int (nI f) :: .ref j :: r) (am_w zN C p) u := l133' (am_ar_hi h1 h2 ⟨vpi hf (by decide), by rw [cl (by omega)]; exact h⟩)
set_option maxRecDepth 100000 in
theorem l180' {i : Int32} (h : am_ar (am_w zN C p) j 1 (fun n => vp_in i n ∧ am_At (d + 1) 170 none Post 181 lc (.int (C j i.toNatClampNeg) :: r) (am_w zN C p) u)) : am_At (d + 1) 170 none Post 180 lc (.int i :: .ref j :: r) (am_w zN C p) u := am_wp_ok (stops := [181]) am_k170 1 _ _ _ _ _ h
theorem l180 (h1 : 74 ≤ j) (h2 : j < zN + 74) (hf : f < 2) (h : am_At (d + 1) 170 none Post 181 lc (.int (C j f) :: r) (am_w zN C p) u) : am_At (d + 1) 170 none Post 180 lc (.int (nI f) :: .ref j :: r) (am_w zN C p) u := l180' (am_ar_hi h1 h2 ⟨vpi hf (by decide), by rw [cl (by omega)]; exact h⟩)
set_option maxRecDepth 100000 in
theorem l190' {i : Int32} (h : am_ar (am_w zN C p) j 1 (fun n => vp_in i n ∧ am_At (d + 1) 170 none Post 191 lc (.int (C j i.toNatClampNeg) :: r) (am_w zN C p) u)) : am_At (d + 1) 170 none Post 190 lc (.int i :: .ref j :: r) (am_w zN C p) u := am_wp_ok (stops := [191]) am_k170 1 _ _ _ _ _ h
theorem l190 (h1 : 74 ≤ j) (h2 : j < zN + 74) (hf : f < 2) (h : am_At (d + 1) 170 none Post 191 lc (.int (C j f) :: r) (am_w zN C p) u) : am_At (d + 1) 170 none Post 190 lc (.int (nI f) :: .ref j :: r) (am_w zN C p) u := l190' (am_ar_hi h1 h2 ⟨vpi hf (by decide), by rw [cl (by omega)]; exact h⟩)
set_option maxRecDepth 100000 in
theorem l307' {i : Int32} (h : am_ar (am_w zN C p) j 1 (fun n => vp_in i n ∧ am_At (d + 1) 170 none Post 308 lc (.int (C j i.toNatClampNeg) :: r) (am_w zN C p) u)) : am_At (d + 1) 170 none Post 307 lc (.int i :: .ref j :: r) (am_w zN C p) u := am_wp_ok (stops := [308]) am_k170 1 _ _ _ _ _ h
theorem l307 (h1 : 74 ≤ j) (h2 : j < zN + 74) (hf : f < 2) (h : am_At (d + 1) 170 none Post 308 lc (.int (C j f) :: r) (am_w zN C p) u) : am_At (d + 1) 170 none Post 307 lc (.int (nI f) :: .ref j :: r) (am_w zN C p) u := l307' (am_ar_hi h1 h2 ⟨vpi hf (by decide), by rw [cl (by omega)]; exact h⟩)
set_option maxRecDepth 100000 in
theorem l323' {i : Int32} (h : am_ar (am_w zN C p) j 1 (fun n => vp_in i n ∧ am_At (d + 1) 170 none Post 324 lc (.int (C j i.toNatClampNeg) :: r) (am_w zN C p) u)) : am_At (d + 1) 170 none Post 323 lc (.int i :: .ref j :: r) (am_w zN C p) u := am_wp_ok (stops := [324]) am_k170 1 _ _ _ _ _ h
theorem l323 (h1 : 74 ≤ j) (h2 : j < zN + 74) (hf : f < 2) (h : am_At (d + 1) 170 none Post 324 lc (.int (C j f) :: r) (am_w zN C p) u) : am_At (d + 1) 170 none Post 323 lc (.int (nI f) :: .ref j :: r) (am_w zN C p) u := l323' (am_ar_hi h1 h2 ⟨vpi hf (by decide), by rw [cl (by omega)]; exact h⟩)
set_option maxRecDepth 100000 in
theorem l339' {i : Int32} (h : am_ar (am_w zN C p) j 1 (fun n => vp_in i n ∧ am_At (d + 1) 170 none Post 340 lc (.int (C j i.toNatClampNeg) :: r) (am_w zN C p) u)) : am_At (d + 1) 170 none Post 339 lc (.int i :: .ref j :: r) (am_w zN C p) u := am_wp_ok (stops := [340]) am_k170 1 _ _ _ _ _ h
theorem l339 (h1 : 74 ≤ j) (h2 : j < zN + 74) (hf : f < 2) (h : am_At (d + 1) 170 none Post 340 lc (.int (C j f) :: r) (am_w zN C p) u) : am_At (d + 1) 170 none Post 339 lc (.int (nI f) :: .ref j :: r) (am_w zN C p) u := l339' (am_ar_hi h1 h2 ⟨vpi hf (by decide), by rw [cl (by omega)]; exact h⟩)
set_option maxRecDepth 100000 in
theorem l343' {i : Int32} (h : am_ar (am_w zN C p) j 1 (fun n => vp_in i n ∧ am_At (d + 1) 170 none Post 344 lc (.int (C j i.toNatClampNeg) :: r) (am_w zN C p) u)) : am_At (d + 1) 170 none Post 343 lc (.int i :: .ref j :: r) (am_w zN C p) u := am_wp_ok (stops := [344]) am_k170 1 _ _ _ _ _ h
theorem l343 (h1 : 74 ≤ j) (h2 : j < zN + 74) (hf : f < 2) (h : am_At (d + 1) 170 none Post 344 lc (.int (C j f) :: r) (am_w zN C p) u) : am_At (d + 1) 170 none Post 343 lc (.int (nI f) :: .ref j :: r) (am_w zN C p) u := l343' (am_ar_hi h1 h2 ⟨vpi hf (by decide), by rw [cl (by omega)]; exact h⟩)
set_option maxRecDepth 100000 in
theorem l184' {i : Int32} (h : am_ar (am_w zN C p) j 1 (fun n => vp_in i n ∧ am_At (d + 1) 170 none Post 185 lc r (am_w zN (am_u2 C j i.toNatClampNeg y) p) u)) : am_At (d + 1) 170 none Post 184 lc (.int y :: .int i :: .ref j :: r) (am_w zN C p) u := am_wp_ok (stops := [185]) am_k170 1 _ _ _ _ _ h
theorem l184 (h1 : 74 ≤ j) (h2 : j < zN + 74) (hf : f < 2) (h : am_At (d + 1) 170 none Post 185 lc r (am_w zN (am_u2 C j f y) p) u) : am_At (d + 1) 170 none Post 184 lc (.int y :: .int (nI f) :: .ref j :: r) (am_w zN C p) u := l184' (am_ar_hi h1 h2 ⟨vpi hf (by decide), by rw [cl (by omega)]; exact h⟩)
set_option maxRecDepth 100000 in
theorem l213' {i : Int32} (h : am_ar (am_w zN C p) j 1 (fun n => vp_in i n ∧ am_At (d + 1) 170 none Post 214 lc r (am_w zN (am_u2 C j i.toNatClampNeg y) p) u)) : am_At (d + 1) 170 none Post 213 lc (.int y :: .int i :: .ref j :: r) (am_w zN C p) u := am_wp_ok (stops := [214]) am_k170 1 _ _ _ _ _ h
theorem l213 (h1 : 74 ≤ j) (h2 : j < zN + 74) (hf : f < 2) (h : am_At (d + 1) 170 none Post 214 lc r (am_w zN (am_u2 C j f y) p) u) : am_At (d + 1) 170 none Post 213 lc (.int y :: .int (nI f) :: .ref j :: r) (am_w zN C p) u := l213' (am_ar_hi h1 h2 ⟨vpi hf (by decide), by rw [cl (by omega)]; exact h⟩)
end
theorem seeG_hi {C C' : Nat → Nat → Int32} {p : Nat → Option Nat} {G : aGl} (h : ∀ z, z < 74 → C' z = C z) (hs : seeG C p G) : seeG C' p G :=
  seeG_congr (fun x hx => h x (by omega)) (by rw [h 63 (by decide)]) (h 64 (by decide)) hs
/-! the sets -/
def hasS (F : aFace) (k : Nat) : Nat → Bool := orb (fun j t => decide (F.2.1 j = nI t)) k
def outS (F : aFace) (k : Nat) : Nat → Bool := orb (fun j t => decide (F.2.1 j = nI t) && decide (¬ F.2.2.2.1 j = 0)) k
theorem bs_tgt {F : aFace} {k : Nat} (hf : fok F) (hk : k < F.1) : (1 : Int32) <<< (F.2.1 k &&& 31) = bs (fun t => decide (F.2.1 k = nI t)) 6 := by
  obtain ⟨t, ht, he⟩ := hf.2.2.2.1 k hk
  rw [he, bs_one ht]
  refine bs_congr (fun x hx => ?_)
  congr 1
  apply propext
  exact ⟨fun h => by rw [h], fun h => (nI_inj (by omega) (by omega) h).symm⟩
theorem has_step {F : aFace} {k : Nat} (hf : fok F) (hk : k < F.1) : bs (hasS F k) 6 ||| ((1 : Int32) <<< (F.2.1 k &&& 31)) = bs (hasS F (k + 1)) 6 := by
  rw [bs_tgt hf hk, bs_or]
  rfl
theorem has_new {F : aFace} {k : Nat} (hf : fok F) (hk : k < F.1) : bs (hasS F k) 6 &&& ((1 : Int32) <<< (F.2.1 k &&& 31)) = 0 := by
  obtain ⟨t, ht, he⟩ := hf.2.2.2.1 k hk
  rw [he, bs_bit ht]
  refine orb_f.mpr (fun j hj => decide_eq_false (fun h => ?_))
  have := hf.2.2.2.2 j k (by omega) hk (h.trans he.symm)
  omega
theorem out_yes {F : aFace} {k : Nat} (hf : fok F) (hk : k < F.1) (h : ¬ F.2.2.2.1 k = 0) : bs (outS F k) 6 ||| ((1 : Int32) <<< (F.2.1 k &&& 31)) = bs (outS F (k + 1)) 6 := by
  rw [bs_tgt hf hk, bs_or]
  refine bs_congr (fun x _ => ?_)
  show (outS F k x || decide (F.2.1 k = nI x)) = (outS F k x || (decide (F.2.1 k = nI x) && decide (¬ F.2.2.2.1 k = 0)))
  rw [decide_eq_true h, Bool.and_true]
theorem out_no {F : aFace} {k : Nat} (h : F.2.2.2.1 k = 0) : bs (outS F k) 6 = bs (outS F (k + 1)) 6 := by
  refine bs_congr (fun x _ => ?_)
  show outS F k x = (outS F k x || (decide (F.2.1 k = nI x) && decide (¬ F.2.2.2.1 k = 0)))
  have e0 : decide (¬ F.2.2.2.1 k = 0) = false := decide_eq_false (fun h2 => h2 h)
  rw [e0, Bool.and_false, Bool.or_false]
theorem orb_t {b : Nat → Nat → Bool} {t n r : Nat} (hr : r < n) (h : b r t = true) : orb b n t = true := by
  cases e : orb b n t with
  | true => rfl
  | false =>
    rw [orb_f.mp e r hr] at h
    cases h
theorem has_plc {F : aFace} {t : Nat} : hasS F F.1 t = (plc F (nI t)).isSome := by
  cases h : plc F (nI t) with
  | none => exact orb_f.mpr (fun j hj => decide_eq_false (fd_none h j (Nat.zero_le _) (by omega)))
  | some a => exact orb_t (plc_lt h).1 (decide_eq_true (plc_lt h).2)
theorem out_plc {F : aFace} {t : Nat} (hf : fok F) : outS F F.1 t = match plc F (nI t) with
    | some a => decide (¬ F.2.2.2.1 a = 0)
    | none => false := by
  cases h : plc F (nI t) with
  | none => exact orb_f.mpr (fun j hj => by rw [decide_eq_false (fd_none h j (Nat.zero_le _) (by omega))]; rfl)
  | some a =>
    obtain ⟨h1, h2⟩ := plc_lt h
    show _ = decide (¬ F.2.2.2.1 a = 0)
    by_cases h0 : F.2.2.2.1 a = 0
    · rw [decide_eq_false (fun h3 => h3 h0)]
      refine orb_f.mpr (fun j hj => ?_)
      by_cases e : F.2.1 j = nI t
      · have := hf.2.2.2.2 j a hj h1 (e.trans h2.symm)
        have e0 : decide (¬ F.2.2.2.1 a = 0) = false := decide_eq_false (fun h3 => h3 h0)
        rw [this, e0, Bool.and_false]
      · rw [decide_eq_false e]
        rfl
    · rw [decide_eq_true h0]
      exact orb_t h1 (by rw [decide_eq_true h2, decide_eq_true h0]; rfl)
theorem own_sets {F H : aFace} {t : Nat} (hf : fok F) (hh : fok H) : own F H (nI t) = if hasS F F.1 t = false then 1 else if hasS H H.1 t = false then 2 else if (outS F F.1 t || outS H H.1 t) = true then 3 else 0 := by
  rw [has_plc, has_plc, out_plc hf, out_plc hh]
  unfold own
  cases plc F (nI t) with
  | none => rfl
  | some a =>
    cases plc H (nI t) with
    | none => rfl
    | some b =>
      by_cases h0 : F.2.2.2.1 a = 0 <;> by_cases h1 : H.2.2.2.1 b = 0 <;> simp [h0, h1]
theorem cnt_snoc (f : Nat → Int32) : ∀ (m k : Nat), cnt f k (m + 1) = cnt f k m + (if f (k + m) = 0 then 0 else 1)
  | 0, k => by simp [cnt]
  | m + 1, k => by
    have ih := cnt_snoc f m (k + 1)
    rw [show cnt f k (m + 1 + 1) = (if f k = 0 then 0 else 1) + cnt f (k + 1) (m + 1) from rfl, ih, show cnt f k (m + 1) = (if f k = 0 then 0 else 1) + cnt f (k + 1) m from rfl, show k + 1 + m = k + (m + 1) by omega]
    omega
theorem less_ok {y n : Int32} (hn : 0 < n.toInt) : (0 ≤ y → y / n = fdv y n) ∧ (¬ 0 ≤ y → y - y / n * n = 0 → y / n = fdv y n) ∧ (¬ 0 ≤ y → ¬ y - y / n * n = 0 → y / n - 1 = fdv y n) := by
  have hs := tmod_sign (x := y.toInt) hn
  have hr := I_rem (x := y) hn
  have i0 : (0 : Int32).toInt = 0 := rfl
  refine ⟨fun h => ?_, fun h h2 => ?_, fun h h2 => ?_⟩
  · rw [Int32.le_iff_toInt_le, i0] at h
    exact fdv_pos hn (hs.1 h)
  · rw [h2, i0] at hr
    exact fdv_pos hn (by omega)
  · rw [Int32.le_iff_toInt_le, i0] at h
    have h3 := hs.2 (by omega)
    refine fdv_neg hn ?_
    have : y.toInt.tmod n.toInt ≠ 0 := by
      intro e
      apply h2
      apply Int32.toInt_inj.mp
      rw [hr, e, i0]
    omega
/-! pointing, by number -/
section
variable {G : aGl} {un rn f : Nat}
theorem isFc_nI (hf : f < 2) : isFc (nI f) = true := by
  unfold isFc
  rw [nI_toI (by omega)]
  exact decide_eq_true (by omega)
theorem qP_in {k : Nat} {w : Int32} (h : there G un rn) (hf : f < 2) (hk : k < (aF (gcur G) ((un * 6 + rn) * 2 + f)).1) (hk6 : k < 6) (hw : 0 ≤ w.toInt ∧ w.toInt ≤ 3) : qPointing G (nI un) (nI rn) (nI f) (nI k) w = if w = 0 then (aF (gcur G) ((un * 6 + rn) * 2 + f)).2.1 k else if w = 1 then (aF (gcur G) ((un * 6 + rn) * 2 + f)).2.2.1 k else if w = 2 then (if (aF (gcur G) ((un * 6 + rn) * 2 + f)).2.2.2.1 k = 0 then 0 else 1) else cor (aF (gcur G) ((un * 6 + rn) * 2 + f)) k := by
  obtain ⟨h1, h2, h3, h4, h5, h6⟩ := h
  rw [qPointing, if_neg (by rw [h6]; decide), if_neg (by rw [isFc_nI hf]; decide), if_neg (by rw [nI_toI (by omega)]; intro h; apply h; omega), rwx_nI h3 h4 hf, if_neg (by rw [nI_toI (by omega)]; intro h; apply h; omega), cn_nI (by omega)]
theorem qP_out {k : Nat} (h : there G un rn) (hf : f < 2) (hk : (aF (gcur G) ((un * 6 + rn) * 2 + f)).1 ≤ k) (hk6 : k < 7) : qPointing G (nI un) (nI rn) (nI f) (nI k) 0 = -2000005 := by
  obtain ⟨h1, h2, h3, h4, h5, h6⟩ := h
  rw [qPointing, if_neg (by rw [h6]; decide), if_neg (by rw [isFc_nI hf]; decide), if_neg (by rw [nI_toI (by omega)]; intro h; apply h; exact ⟨by omega, by decide, by decide⟩), rwx_nI h3 h4 hf, if_pos (by rw [nI_toI (by omega)]; omega)]
end
