set_option maxRecDepth 100000 in
theorem am_k164_0 : am_t164_0.all (am_ck 164) = true := by decide +kernel
set_option maxRecDepth 100000 in
theorem am_k164_1 : am_t164_1.all (am_ck 164) = true := by decide +kernel
set_option maxRecDepth 100000 in
theorem am_k164_2 : am_t164_2.all (am_ck 164) = true := by decide +kernel
set_option maxRecDepth 100000 in
theorem am_k164_3 : am_t164_3.all (am_ck 164) = true := by decide +kernel
set_option maxRecDepth 100000 in
theorem am_k164_4 : am_t164_4.all (am_ck 164) = true := by decide +kernel
set_option maxRecDepth 100000 in
theorem am_k164_5 : am_t164_5.all (am_ck 164) = true := by decide +kernel
set_option maxRecDepth 100000 in
theorem am_k164_6 : am_t164_6.all (am_ck 164) = true := by decide +kernel
set_option maxRecDepth 100000 in
theorem am_k164_7 : am_t164_7.all (am_ck 164) = true := by decide +kernel
set_option maxRecDepth 100000 in
theorem am_k164_8 : am_t164_8.all (am_ck 164) = true := by decide +kernel
set_option maxRecDepth 100000 in
theorem am_k164_9 : am_t164_9.all (am_ck 164) = true := by decide +kernel
set_option maxRecDepth 100000 in
theorem am_k164_10 : am_t164_10.all (am_ck 164) = true := by decide +kernel
set_option maxRecDepth 100000 in
theorem am_k164_11 : am_t164_11.all (am_ck 164) = true := by decide +kernel
set_option maxRecDepth 100000 in
theorem am_k164_12 : am_t164_12.all (am_ck 164) = true := by decide +kernel
set_option maxRecDepth 100000 in
theorem am_k164_13 : am_t164_13.all (am_ck 164) = true := by decide +kernel
set_option maxRecDepth 100000 in
theorem am_k164_14 : am_t164_14.all (am_ck 164) = true := by decide +kernel
set_option maxRecDepth 100000 in
theorem am_k164_15 : am_t164_15.all (am_ck 164) = true := by decide +kernel
set_option maxRecDepth 100000 in
theorem am_k164_16 : am_t164_16.all (am_ck 164) = true := by decide +kernel
set_option maxRecDepth 100000 in
theorem am_k164_17 : am_t164_17.all (am_ck 164) = true := by decide +kernel
set_option maxRecDepth 100000 in
theorem am_k164_18 : am_t164_18.all (am_ck 164) = true := by decide +kernel
theorem am_k164 : am_t164.all (am_ck 164) = true := by
  simp only [am_t164, List.all_append, Bool.and_eq_true]
  exact ⟨am_k164_0, ⟨am_k164_1, ⟨am_k164_2, ⟨am_k164_3, ⟨am_k164_4, ⟨am_k164_5, ⟨am_k164_6, ⟨am_k164_7, ⟨am_k164_8, ⟨am_k164_9, ⟨am_k164_10, ⟨am_k164_11, ⟨am_k164_12, ⟨am_k164_13, ⟨am_k164_14, ⟨am_k164_15, ⟨am_k164_16, ⟨am_k164_17, am_k164_18⟩⟩⟩⟩⟩⟩⟩⟩⟩⟩⟩⟩⟩⟩⟩⟩⟩⟩
