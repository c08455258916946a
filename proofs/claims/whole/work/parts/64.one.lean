/-! ONE CALL ON A FRESH OBJECT, type apart -/
theorem okR_ok {r : Option (Outcome × aH)} (h : okR r = true) : ∃ A', r = some (.returned (some (.int 1)), A') ∧ A'.length ≤ 600000 ∧ aSum A' ≤ 7000000 := by
  unfold okR at h
  split at h
  · rename_i z A'
    simp only [Bool.and_eq_true, decide_eq_true_eq] at h
    obtain ⟨⟨rfl, h2⟩, h3⟩ := h
    exact ⟨A', rfl, h2, h3⟩
  · cases h
theorem iF_all (x : Int32) : iF.1 ≤ x ∧ x ≤ iF.2 := by
  show Int32.minValue ≤ x ∧ x ≤ Int32.maxValue
  rw [Int32.le_iff_toInt_le, Int32.le_iff_toInt_le]
  have h1 := Int32.le_toInt x
  have h2 := Int32.toInt_lt x
  have h3 : Int32.minValue.toInt = -2147483648 := by decide
  have h4 : Int32.maxValue.toInt = 2147483647 := by decide
  omega
theorem cell_run {v : Value} {xs : Nat → Int32} {cc : Int32} {ia ib : Int32 × Int32} {A A' : aH} {o : Outcome} (h1 : sRun v (ivOf ia ib) cc 1500 12 2 23 lsH [] A = some (o, A')) (hcc : xs 0 &&& 15 = cc) (ha : ia.1 ≤ xs 1 ∧ xs 1 ≤ ia.2) (hb : ib.1 ≤ xs 2 ∧ xs 2 ≤ ib.2) : aRun (3, xs, v) 1500 12 2 23 lsH [] A = some (o, A') := by
  have k := sRun_ok (f := fun k => if k = 0 then xs 1 else if k = 1 then xs 2 else if k = 2 then xs 0 else 0) (xs := xs) (iv := ivOf ia ib) (fun k => ?_) rfl rfl rfl hcc _ _ _ _ _ _ _ _ h1
  · rw [show ∀ f, sgL f lsH = lsH from fun f => rfl, List.map_nil] at k
    exact k
  · unfold ivOf
    by_cases h0 : k = 0
    · simp only [h0, if_true]; exact ha
    · by_cases h4 : k = 1
      · simp only [h4, if_true, show ¬ (1 = 0) by decide, if_false]; exact hb
      · simp only [h0, h4, if_false]; exact iF_all _
theorem cell_go {sc : aSc} {A A' : aH} (hd : ∀ o B, aEx sc 12 2 23 lsH [] A o B → aEx sc 12 2 0 (aEntry 7 [.ref 0]) [] [] o B) {E : aH} (he : eqH E A) (k : aRun sc 1500 12 2 23 lsH [] E = some (.returned (some (.int 1)), A')) (h2 : A'.length ≤ 600000) (h3 : aSum A' ≤ 7000000) : ∃ B', aEx sc 12 2 0 (aEntry 7 [.ref 0]) [] [] (.returned (some (.int 1))) B' ∧ B'.length ≤ 600000 ∧ aSum B' ≤ 7000000 := by
  obtain ⟨B', k1, k2⟩ := aRun_eqv _ _ _ _ _ _ _ _ _ _ he k
  exact ⟨B', hd _ _ ⟨1500, k1⟩, by rw [← k2.1]; exact h2, by rw [← k2.sum]; exact h3⟩
theorem cell_ok {v : Value} {xs : Nat → Int32} {cc : Int32} {ia ib : Int32 × Int32} (h : ceE v (cc, ia, ib) = true) (hf : frB v = true ∧ eqH E3 (H3 v)) (hcc : xs 0 &&& 15 = cc) (ha : ia.1 ≤ xs 1 ∧ xs 1 ≤ ia.2) (hb : ib.1 ≤ xs 2 ∧ xs 2 ≤ ib.2) :
    ∃ A', aEx (3, xs, v) 12 2 0 (aEntry 7 [.ref 0]) [] [] (.returned (some (.int 1))) A' ∧ A'.length ≤ 600000 ∧ aSum A' ≤ 7000000 := by
  unfold ceE at h
  dsimp only at h
  have hd : ∀ o B, aEx (3, xs, v) 12 2 23 lsH [] (H3 v) o B → aEx (3, xs, v) 12 2 0 (aEntry 7 [.ref 0]) [] [] o B := fun o B k => law_head (sc := (3, xs, v)) hf.1 (by decide) k
  have he := hf.2
  revert h hd he
  generalize H3 v = A
  generalize E3 = E
  intro h hd he
  obtain ⟨A', h1, h2, h3⟩ := okR_ok h
  exact cell_go hd he (cell_run h1 hcc ha hb) h2 h3
theorem tri (x : Int32) : (i0.1 ≤ x ∧ x ≤ i0.2) ∨ ((iP 0).1 ≤ x ∧ x ≤ (iP 0).2) ∨ (i1.1 ≤ x ∧ x ≤ i1.2) := by
  show (Int32.minValue ≤ x ∧ x ≤ -1) ∨ ((0 : Int32) ≤ x ∧ x ≤ 0) ∨ ((1 : Int32) ≤ x ∧ x ≤ Int32.maxValue)
  simp only [Int32.le_iff_toInt_le]
  have h1 := Int32.le_toInt x
  have h2 := Int32.toInt_lt x
  have h3 : Int32.minValue.toInt = -2147483648 := by decide
  have h4 : Int32.maxValue.toInt = 2147483647 := by decide
  have h5 : (-1 : Int32).toInt = -1 := by decide
  have h6 : (0 : Int32).toInt = 0 := by decide
  have h7 : (1 : Int32).toInt = 1 := by decide
  omega
theorem and15 (x : Int32) : ∃ k, k < 16 ∧ x &&& 15 = Int32.ofNat k := by
  have h : (x &&& 15).toBitVec.toNat ≤ 15 := by
    rw [Int32.toBitVec_and, BitVec.toNat_and]
    exact Nat.and_le_right
  refine ⟨(x &&& 15).toBitVec.toNat, by omega, ?_⟩
  apply Int32.toBitVec_inj.mp
  show (x &&& 15).toBitVec = BitVec.ofNat 32 _
  rw [BitVec.ofNat_toNat, BitVec.setWidth_eq]
/-- what the kernel has checked, for a value of the formatter -/
def allB (v : Value) : Prop := (frB v = true ∧ eqH E3 (H3 v)) ∧ cells_f.all (ceE v) = true ∧ cells_b.all (ceE v) = true ∧ cells_c.all (ceE v) = true ∧ cells_d.all (ceE v) = true ∧ cells_e.all (ceE v) = true
theorem b_all (x : Int32) : ((i0).1 ≤ x ∧ x ≤ (i0).2) ∨ ((iP 0).1 ≤ x ∧ x ≤ (iP 0).2) ∨ ((iP 1).1 ≤ x ∧ x ≤ (iP 1).2) ∨ ((iP 2).1 ≤ x ∧ x ≤ (iP 2).2) ∨ ((iP 3).1 ≤ x ∧ x ≤ (iP 3).2) ∨ ((4 : Int32) ≤ x ∧ x ≤ Int32.maxValue) := by
  show (Int32.minValue ≤ x ∧ x ≤ -1) ∨ ((0 : Int32) ≤ x ∧ x ≤ 0) ∨ ((1 : Int32) ≤ x ∧ x ≤ 1) ∨ ((2 : Int32) ≤ x ∧ x ≤ 2) ∨ ((3 : Int32) ≤ x ∧ x ≤ 3) ∨ ((4 : Int32) ≤ x ∧ x ≤ Int32.maxValue)
  simp only [Int32.le_iff_toInt_le]
  have h1 := Int32.le_toInt x
  have h2 := Int32.toInt_lt x
  have h3 : Int32.minValue.toInt = -2147483648 := by decide
  have h4 : Int32.maxValue.toInt = 2147483647 := by decide
  have h5 : (-1 : Int32).toInt = -1 := by decide
  have h6 : (0 : Int32).toInt = 0 := by decide
  have h7 : (1 : Int32).toInt = 1 := by decide
  have h8 : (2 : Int32).toInt = 2 := by decide
  have h9 : (3 : Int32).toInt = 3 := by decide
  have h10 : (4 : Int32).toInt = 4 := by decide
  omega
theorem n_all (x : Int32) : ((i0).1 ≤ x ∧ x ≤ (i0).2) ∨ ((0 : Int32) ≤ x ∧ x ≤ Int32.maxValue) := by
  show (Int32.minValue ≤ x ∧ x ≤ -1) ∨ ((0 : Int32) ≤ x ∧ x ≤ Int32.maxValue)
  simp only [Int32.le_iff_toInt_le]
  have h1 := Int32.le_toInt x
  have h2 := Int32.toInt_lt x
  have h3 : Int32.minValue.toInt = -2147483648 := by decide
  have h4 : Int32.maxValue.toInt = 2147483647 := by decide
  have h5 : (-1 : Int32).toInt = -1 := by decide
  have h6 : (0 : Int32).toInt = 0 := by decide
  omega
theorem one_call {v : Value} {xs : Nat → Int32} (hB : allB v) (hz : ¬ xs 0 &&& 15 = 0) (hp : ¬ xs 0 &&& 15 = 14) : ∃ A', aEx (3, xs, v) 12 2 0 (aEntry 7 [.ref 0]) [] [] (.returned (some (.int 1))) A' ∧ A'.length ≤ 600000 ∧ aSum A' ≤ 7000000 := by
  obtain ⟨hf, ba, bb, bc, bd, be⟩ := hB
  obtain ⟨k, hk, e⟩ := and15 (xs 0)
  have fa := iF_all (xs 1)
  have fb := iF_all (xs 2)
  have ga : ∀ q ∈ cells_f, ceE v q = true := List.all_eq_true.mp ba
  have gb : ∀ q ∈ cells_b, ceE v q = true := List.all_eq_true.mp bb
  have gc : ∀ q ∈ cells_c, ceE v q = true := List.all_eq_true.mp bc
  have gd : ∀ q ∈ cells_d, ceE v q = true := List.all_eq_true.mp bd
  have ge : ∀ q ∈ cells_e, ceE v q = true := List.all_eq_true.mp be
  rcases (by omega : k = 0 ∨ k = 1 ∨ k = 2 ∨ k = 3 ∨ k = 4 ∨ k = 5 ∨ k = 6 ∨ k = 7 ∨ k = 8 ∨ k = 9 ∨ k = 10 ∨ k = 11 ∨ k = 12 ∨ k = 13 ∨ k = 14 ∨ k = 15) with rfl | rfl | rfl | rfl | rfl | rfl | rfl | rfl | rfl | rfl | rfl | rfl | rfl | rfl | rfl | rfl
  · exact absurd e hz
  · exact cell_ok (ga (1, iF, iF) (by simp [cells_f])) hf e fa fb
  · exact cell_ok (ga (2, iF, iF) (by simp [cells_f])) hf e fa fb
  · rcases tri (xs 1) with h | h | h
    · exact cell_ok (gb (3, i0, iF) (by simp [cells_b])) hf e h fb
    · rcases b_all (xs 2) with h2 | h2 | h2 | h2 | h2 | h2
      · exact cell_ok (gb (3, iP 0, i0) (by simp [cells_b])) hf e h h2
      · exact cell_ok (gb (3, iP 0, iP 0) (by simp [cells_b])) hf e h h2
      · exact cell_ok (gb (3, iP 0, iP 1) (by simp [cells_b])) hf e h h2
      · exact cell_ok (gb (3, iP 0, iP 2) (by simp [cells_b])) hf e h h2
      · exact cell_ok (gb (3, iP 0, iP 3) (by simp [cells_b])) hf e h h2
      · exact cell_ok (gb (3, iP 0, (4, Int32.maxValue)) (by simp [cells_b])) hf e h h2
    · exact cell_ok (gb (3, i1, iF) (by simp [cells_b])) hf e h fb
  · rcases tri (xs 1) with h | h | h
    · exact cell_ok (gc (4, i0, iF) (by simp [cells_c])) hf e h fb
    · exact cell_ok (gc (4, iP 0, iF) (by simp [cells_c])) hf e h fb
    · exact cell_ok (gc (4, i1, iF) (by simp [cells_c])) hf e h fb
  · rcases tri (xs 1) with h | h | h
    · exact cell_ok (gc (5, i0, iF) (by simp [cells_c])) hf e h fb
    · exact cell_ok (gc (5, iP 0, iF) (by simp [cells_c])) hf e h fb
    · exact cell_ok (gc (5, i1, iF) (by simp [cells_c])) hf e h fb
  · rcases tri (xs 1) with h | h | h
    · exact cell_ok (gc (6, i0, iF) (by simp [cells_c])) hf e h fb
    · exact cell_ok (gc (6, iP 0, iF) (by simp [cells_c])) hf e h fb
    · exact cell_ok (gc (6, i1, iF) (by simp [cells_c])) hf e h fb
  · exact cell_ok (ga (7, iF, iF) (by simp [cells_f])) hf e fa fb
  · exact cell_ok (ga (8, iF, iF) (by simp [cells_f])) hf e fa fb
  · rcases tri (xs 1) with h | h | h
    · exact cell_ok (gd (9, i0, iF) (by simp [cells_d])) hf e h fb
    · exact cell_ok (gd (9, iP 0, iF) (by simp [cells_d])) hf e h fb
    · exact cell_ok (gd (9, i1, iF) (by simp [cells_d])) hf e h fb
  · rcases tri (xs 1) with h | h | h
    · exact cell_ok (gd (10, i0, iF) (by simp [cells_d])) hf e h fb
    · exact cell_ok (gd (10, iP 0, iF) (by simp [cells_d])) hf e h fb
    · exact cell_ok (gd (10, i1, iF) (by simp [cells_d])) hf e h fb
  · rcases tri (xs 1) with h | h | h
    · exact cell_ok (gd (11, i0, iF) (by simp [cells_d])) hf e h fb
    · exact cell_ok (gd (11, iP 0, iF) (by simp [cells_d])) hf e h fb
    · exact cell_ok (gd (11, i1, iF) (by simp [cells_d])) hf e h fb
  · rcases tri (xs 1) with h | h | h
    · exact cell_ok (ge (12, i0, iF) (by simp [cells_e])) hf e h fb
    · rcases n_all (xs 2) with h2 | h2
      · exact cell_ok (ge (12, iP 0, i0) (by simp [cells_e])) hf e h h2
      · exact cell_ok (ge (12, iP 0, (0, Int32.maxValue)) (by simp [cells_e])) hf e h h2
    · exact cell_ok (ge (12, i1, iF) (by simp [cells_e])) hf e h fb
  · rcases tri (xs 1) with h | h | h
    · exact cell_ok (ge (13, i0, iF) (by simp [cells_e])) hf e h fb
    · rcases n_all (xs 2) with h2 | h2
      · exact cell_ok (ge (13, iP 0, i0) (by simp [cells_e])) hf e h h2
      · exact cell_ok (ge (13, iP 0, (0, Int32.maxValue)) (by simp [cells_e])) hf e h h2
    · exact cell_ok (ge (13, i1, iF) (by simp [cells_e])) hf e h fb
  · exact absurd e hp
  · exact cell_ok (ga (15, iF, iF) (by simp [cells_f])) hf e fa fb
/-- one call at most -/
theorem one_all {v : Value} {xs : Nat → Int32} {L : Nat} (hB : allB v) (hv : v = .null ∨ v = .ref 999) (hL : L ≤ 3) : goal1 (L, xs, v) := by
  have hfr := hB.1
  by_cases h3 : L < 3
  · exact goal_of (sc := (L, xs, v)) hfr hv (by show ¬ L = 99999; omega) (law_end (F := 1) (n := 0) (p := 0) (sc := (L, xs, v)) (show L ≤ 1536 by omega) (by decide) (show L < 0 + 3 by omega)) (by decide) (fun e he => by cases he)
  · obtain rfl : L = 3 := by omega
    by_cases h0 : xs 0 &&& 15 = 0
    · obtain ⟨σ', h1, h2⟩ := law_type (F := 9) (n := 0) (v := v) (Nat.le_refl _) h0
      exact goal_of (sc := (3, xs, v)) hfr hv (show ¬ 3 = 99999 by decide) h1 (by rw [h2]; decide) (fun e he => by rw [h2] at he; cases he)
    · by_cases h14 : xs 0 &&& 15 = 14
      · obtain ⟨σ', h1, h2⟩ := law_print (F := 9) (n := 0) (v := v) (by decide) h14
        exact goal_of (sc := (3, xs, v)) hfr hv (show ¬ 3 = 99999 by decide) h1 (by rw [h2]; decide) (fun e he => by rw [h2] at he; cases he)
      · obtain ⟨A', ⟨n, k1⟩, k2, k3⟩ := one_call hB h0 h14
        exact ⟨n, 12, A', k1, k2, k3, by decide, by decide⟩
theorem allB_0 : allB .null := by
  have h := fresh_0
  rw [Bool.and_eq_true] at h
  exact ⟨⟨h.1, eqHB_ok h.2⟩, ce_f0, ce_b0, ce_c0, ce_d0, ce_e0⟩
theorem allB_9 : allB (.ref 999) := by
  have h := fresh_9
  rw [Bool.and_eq_true] at h
  exact ⟨⟨h.1, eqHB_ok h.2⟩, ce_f9, ce_b9, ce_c9, ce_d9, ce_e9⟩
theorem one_goal {L : Nat} {xs : Nat → Int32} {v : Value} (hL : L ≤ 3) (hv : v = .null ∨ v = .ref 999) : goal1 (L, xs, v) := by
  rcases hv with rfl | rfl
  · exact one_all allB_0 (Or.inl rfl) hL
  · exact one_all allB_9 (Or.inr rfl) hL
