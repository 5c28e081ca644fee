set_option maxRecDepth 100000 in
theorem am_k164 : am_t164.all (am_ck 164) = true := by decide +kernel
set_option maxRecDepth 100000 in
theorem am_k165 : am_t165.all (am_ck 165) = true := by decide +kernel
set_option maxRecDepth 100000 in
theorem am_k166 : am_t166.all (am_ck 166) = true := by decide +kernel
set_option maxRecDepth 100000 in
theorem am_k167 : am_t167.all (am_ck 167) = true := by decide +kernel
set_option maxRecDepth 100000 in
theorem am_k168 : am_t168.all (am_ck 168) = true := by decide +kernel
set_option maxRecDepth 100000 in
theorem am_k169 : am_t169.all (am_ck 169) = true := by decide +kernel
set_option maxRecDepth 100000 in
theorem am_k170_0 : am_t170_0.all (am_ck 170) = true := by decide +kernel
set_option maxRecDepth 100000 in
theorem am_k170_1 : am_t170_1.all (am_ck 170) = true := by decide +kernel
set_option maxRecDepth 100000 in
theorem am_k170_2 : am_t170_2.all (am_ck 170) = true := by decide +kernel
set_option maxRecDepth 100000 in
theorem am_k170_3 : am_t170_3.all (am_ck 170) = true := by decide +kernel
set_option maxRecDepth 100000 in
theorem am_k170_4 : am_t170_4.all (am_ck 170) = true := by decide +kernel
set_option maxRecDepth 100000 in
theorem am_k170_5 : am_t170_5.all (am_ck 170) = true := by decide +kernel
set_option maxRecDepth 100000 in
theorem am_k170_6 : am_t170_6.all (am_ck 170) = true := by decide +kernel
set_option maxRecDepth 100000 in
theorem am_k170_7 : am_t170_7.all (am_ck 170) = true := by decide +kernel
set_option maxRecDepth 100000 in
theorem am_k170_8 : am_t170_8.all (am_ck 170) = true := by decide +kernel
set_option maxRecDepth 100000 in
theorem am_k170_9 : am_t170_9.all (am_ck 170) = true := by decide +kernel
theorem am_k170 : am_t170.all (am_ck 170) = true := by
  simp only [am_t170, List.all_append, Bool.and_eq_true]
  exact ⟨am_k170_0, ⟨am_k170_1, ⟨am_k170_2, ⟨am_k170_3, ⟨am_k170_4, ⟨am_k170_5, ⟨am_k170_6, ⟨am_k170_7, ⟨am_k170_8, am_k170_9⟩⟩⟩⟩⟩⟩⟩⟩⟩
set_option maxRecDepth 100000 in
theorem am_k171_0 : am_t171_0.all (am_ck 171) = true := by decide +kernel
set_option maxRecDepth 100000 in
theorem am_k171_1 : am_t171_1.all (am_ck 171) = true := by decide +kernel
set_option maxRecDepth 100000 in
theorem am_k171_2 : am_t171_2.all (am_ck 171) = true := by decide +kernel
set_option maxRecDepth 100000 in
theorem am_k171_3 : am_t171_3.all (am_ck 171) = true := by decide +kernel
set_option maxRecDepth 100000 in
theorem am_k171_4 : am_t171_4.all (am_ck 171) = true := by decide +kernel
set_option maxRecDepth 100000 in
theorem am_k171_5 : am_t171_5.all (am_ck 171) = true := by decide +kernel
theorem am_k171 : am_t171.all (am_ck 171) = true := by
  simp only [am_t171, List.all_append, Bool.and_eq_true]
  exact ⟨am_k171_0, ⟨am_k171_1, ⟨am_k171_2, ⟨am_k171_3, ⟨am_k171_4, am_k171_5⟩⟩⟩⟩⟩
set_option maxRecDepth 100000 in
theorem am_k172 : am_t172.all (am_ck 172) = true := by decide +kernel
set_option maxRecDepth 100000 in
theorem am_k173 : am_t173.all (am_ck 173) = true := by decide +kernel
