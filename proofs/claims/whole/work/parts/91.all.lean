theorem ck_all {M : Nat} (h : M < 257) : okM M = true := by
  by_cases h1 : M < 38
  · exact ck_1 M (List.mem_range'_1.mpr (by omega))
  by_cases h2 : M < 70
  · exact ck_2 M (List.mem_range'_1.mpr (by omega))
  by_cases h3 : M < 108
  · exact ck_3 M (List.mem_range'_1.mpr (by omega))
  by_cases h4 : M < 143
  · exact ck_4 M (List.mem_range'_1.mpr (by omega))
  by_cases h5 : M < 168
  · exact ck_5 M (List.mem_range'_1.mpr (by omega))
  by_cases h6 : M < 196
  · exact ck_6 M (List.mem_range'_1.mpr (by omega))
  by_cases h7 : M < 220
  · exact ck_7 M (List.mem_range'_1.mpr (by omega))
  by_cases h8 : M < 239
  · exact ck_8 M (List.mem_range'_1.mpr (by omega))
  exact ck_9 M (List.mem_range'_1.mpr (by omega))
theorem prog_len : aProg.length = 257 := by decide +kernel
theorem nm_len : aNmL.length = 257 := by decide +kernel
theorem aTb_lt {M pc : Nat} {i : aI} (h : aTb M pc = some i) : M < 257 := by
  have hm := aTb_mem h
  rw [List.getD_eq_getElem?_getD] at hm
  by_cases hl : M < 257
  · exact hl
  · rw [List.getElem?_eq_none (by rw [prog_len]; omega)] at hm
    cases hm
theorem ok_parts {M : Nat} (h : okM M = true) : ckB M = true ∧ tkB M = true ∧ rkB M = true ∧ (3 ≤ M → mOk M) := by
  unfold okM at h
  rw [Bool.and_eq_true, Bool.and_eq_true, Bool.and_eq_true, Bool.or_eq_true, decide_eq_true_eq] at h
  refine ⟨h.1.1.1, h.1.1.2, h.1.2, fun h3 => ?_⟩
  rcases h.2 with h4 | h4
  · omega
  · exact moB_ok h4
theorem all_T : ∀ M pc i, aTb M pc = some i → aOk M pc i := fun _ _ _ h => ckB_ok (ok_parts (ck_all (aTb_lt h))).1 h
theorem all_Th : ∀ M pc i, aTb M pc = some i → aKd i = 3 → aSite M pc i.2.1 := fun _ _ _ h hk => tkB_ok (ok_parts (ck_all (aTb_lt h))).2.1 h hk
theorem all_Rt : ∀ M pc i, aTb M pc = some i → rtB i (aRt M) = true := fun _ _ _ h => rkB_ok (ok_parts (ck_all (aTb_lt h))).2.2.1 h
theorem pn_none : aPn 257 = none := by decide +kernel
theorem all_Mo : ∀ M, 3 ≤ M → mOk M ∨ aPn M = none := fun M h => by
  by_cases hl : M < 257
  · exact Or.inl ((ok_parts (ck_all hl)).2.2.2 h)
  · refine Or.inr ?_
    have e1 : aNm M = aNm 257 := by
      unfold aNm
      rw [List.getD_eq_getElem?_getD, List.getD_eq_getElem?_getD, List.getElem?_eq_none (by rw [nm_len]; omega), List.getElem?_eq_none (by rw [nm_len]; omega)]
    unfold aPn
    rw [e1]
    exact pn_none
