section
variable {G : aGl}
theorem gG_oStrike {u r t f v : Int32} (hv : v = 0 ∨ v = 1) (hg : gG G) : gG (oStrike G u r t f v).2 := by
  unfold oStrike
  by_cases h1 : hrA (gcur G) u r = false
  · rw [if_pos h1]; exact hg
  rw [if_neg h1]
  by_cases h3 : isFc f = false
  · rw [if_pos h3]; exact hg
  rw [if_neg h3]
  obtain ⟨un, rn, rfl, hu1, hu, rfl, hr1, hr⟩ := hrA_ok (bf h1) hg.1
  obtain ⟨fn, rfl, hf⟩ := isFc_ok (bf h3)
  rw [rwx_nI hu hr hf]
  have hk := hg.1.2.2.2.2.1 ((un * 6 + rn) * 2 + fn) (by omega)
  cases plc (aF (gcur G) ((un * 6 + rn) * 2 + fn)) t with
  | none => exact hg
  | some k =>
    show gG (if (aF (gcur G) ((un * 6 + rn) * 2 + fn)).2.2.2.1 k = v then (-2000005, G) else _).2
    split
    · exact hg
    · exact gG_rec hg (good_upF hg.1 hu hr1 hf (fok_fstr hk hv))
theorem gG_oWipe {u r t : Int32} (hg : gG G) : gG (oWipe G u r t).2 := by
  unfold oWipe
  by_cases h1 : hrA (gcur G) u r = false
  · rw [if_pos h1]; exact hg
  rw [if_neg h1]
  by_cases h2 : isT t = false
  · rw [if_pos h2]; exact hg
  rw [if_neg h2]
  obtain ⟨un, rn, rfl, hu1, hu, rfl, hr1, hr⟩ := hrA_ok (bf h1) hg.1
  have e0 : rwx (nI un) (nI rn) 0 = (un * 6 + rn) * 2 + 0 := rwx_nI (f := 0) hu hr (by decide)
  have e1 : rwx (nI un) (nI rn) 1 = (un * 6 + rn) * 2 + 1 := rwx_nI (f := 1) hu hr (by decide)
  rw [e0, e1]
  split
  · exact hg
  · rename_i h3
    rw [not_or] at h3
    split
    · exact hg
    · refine gG_rec hg (good_remA (good_remA hg.1 hu hr1 (by decide) (bt h3.1)) hu (by rw [remA_aR]; exact hr1) (by decide) ?_)
      rw [remA_ne (by omega)]
      exact bt h3.2
theorem good_cln {u : Nat} : ∀ (m : Nat) (A : aS), good A → u < 4 → good (clnL u m A).2
  | 0, A, hg, _ => hg
  | m + 1, A, hg, hu => by
    unfold clnL
    cases hw : wrA A u with
    | none => exact hg
    | some x =>
      obtain ⟨x1, x2⟩ := wr_in hw
      refine good_cln m _ (good_stkA (good_stkA (f := 0) hg hu x1 (by decide)) hu ?_ (by decide)) hu
      rw [stkA_aR]
      exact x1
theorem gG_oClean {u : Int32} (hg : gG G) : gG (oClean G u).2 := by
  unfold oClean
  by_cases h1 : hsA (gcur G) u = false
  · rw [if_pos h1]; exact hg
  rw [if_neg h1]
  obtain ⟨n, rfl, hn⟩ := hsA_ok (bf h1) hg.1
  have h4 := hg.1.1
  rw [cn_nI (by omega)]
  cases wrA (gcur G) n with
  | none => exact hg
  | some x => exact gG_rec hg (good_cln 36 (gcur G) hg.1 (by omega))
end
