/-! HEAPS THAT ARE ALIKE give alike runs: arrays count below their length alone -/
def eqK (n : Nat) (c c' : (Nat → Int32) ⊕ (Nat → Int64) ⊕ (Nat → UInt32) ⊕ (Nat → UInt64) ⊕ (Nat → Option Nat)) : Prop := match c, c' with
  | .inl f, .inl g => ∀ j, j < n → f j = g j
  | .inr (.inl f), .inr (.inl g) => ∀ j, j < n → f j = g j
  | .inr (.inr (.inr (.inr f))), .inr (.inr (.inr (.inr g))) => ∀ j, j < n → f j = g j
  | _, _ => False
def eqC (x y : aE) : Prop := match x, y with
  | .inl p, .inl q => p.1 = q.1 ∧ p.2.1 = q.2.1 ∧ eqK p.2.1 p.2.2 q.2.2
  | .inr p, .inr q => p = q
  | _, _ => False
def eqH (A B : aH) : Prop := A.length = B.length ∧ ∀ (k : Nat) (x : aE), A[k]? = some x → ∃ y, B[k]? = some y ∧ eqC x y
section EQV
variable {sc : aSc} {A B A1 : aH}
theorem eqH.obj (h : eqH A B) {k : Nat} {q : Nat × List Value} (e : A[k]? = some (.inr q)) : B[k]? = some (.inr q) := by
  obtain ⟨y, h1, h2⟩ := h.2 k _ e
  cases y with
  | inl p => exact absurd h2 (by simp [eqC])
  | inr p =>
    simp only [eqC] at h2
    rw [h1, h2]
theorem eqH.arr (h : eqH A B) {k : Nat} {q : Nat × vp_A} (e : A[k]? = some (.inl q)) : ∃ c', B[k]? = some (.inl (q.1, q.2.1, c')) ∧ eqK q.2.1 q.2.2 c' := by
  obtain ⟨y, h1, h2⟩ := h.2 k _ e
  cases y with
  | inr p => exact absurd h2 (by simp [eqC])
  | inl p =>
    simp only [eqC] at h2
    obtain ⟨p1, p2, p3⟩ := p
    obtain ⟨g1, g2, g3⟩ := h2
    dsimp only at g1 g2 g3
    subst g1; subst g2
    exact ⟨p3, h1, g3⟩
theorem eqH.push (h : eqH A B) {x y : aE} (hxy : eqC x y) : eqH (A ++ [x]) (B ++ [y]) := by
  refine ⟨by simp [h.1], fun k z hz => ?_⟩
  by_cases hk : k < A.length
  · rw [List.getElem?_append_left hk] at hz
    rw [List.getElem?_append_left (by rw [← h.1]; exact hk)]
    exact h.2 k z hz
  · rw [List.getElem?_append_right (by omega)] at hz
    rw [List.getElem?_append_right (by rw [← h.1]; omega)]
    have h0 : k - A.length < 1 := (List.getElem?_eq_some_iff.mp hz).1
    have h1 : k - A.length = 0 := by omega
    have h2 : k - B.length = 0 := by rw [← h.1]; exact h1
    rw [h1] at hz
    rw [h2]
    cases hz
    exact ⟨y, rfl, hxy⟩
theorem eqH.set (h : eqH A B) {k : Nat} {x y : aE} (hxy : eqC x y) : eqH (A.set k x) (B.set k y) := by
  refine ⟨by simp [h.1], fun j z hz => ?_⟩
  rw [List.getElem?_set] at hz ⊢
  split at hz
  · rename_i hk
    rw [if_pos hk]
    split at hz
    · rename_i hl
      rw [if_pos (by rw [← h.1]; exact hl)]
      cases hz
      exact ⟨y, rfl, hxy⟩
    · cases hz
  · rename_i hk
    rw [if_neg hk]
    exact h.2 j z hz
theorem eqH.cl (h : eqH A B) {v : Value} {ci : Nat} (e : aCl A v = some ci) : aCl B v = some ci := by
  unfold aCl at e ⊢
  cases v with
  | ref a =>
    dsimp only at e ⊢
    split at e
    · rename_i ha; rw [if_pos ha]; exact e
    · rename_i ha
      rw [if_neg ha]
      split at e
      · rename_i q e1
        rw [h.obj e1]
        exact e
      · cases e
  | _ => cases e
theorem eqH.fld (h : eqH A B) {a ci k : Nat} {w : Value} (e : aFld A a ci k = some w) : aFld B a ci k = some w := by
  unfold aFld at e ⊢
  split at e
  · rename_i ha; rw [if_pos ha]; exact e
  · rename_i ha
    rw [if_neg ha]
    split at e
    · rename_i q e1
      rw [h.obj e1]
      exact e
    · cases e
theorem eqH.put (h : eqH A B) {a ci k : Nat} {w : Value} (e : aPut A a ci k w = some A1) : ∃ B1, aPut B a ci k w = some B1 ∧ eqH A1 B1 := by
  unfold aPut at e ⊢
  split at e
  · cases e
  · rename_i ha
    rw [if_neg ha]
    split at e
    · rename_i q e1
      rw [h.obj e1]
      dsimp only
      split at e
      · rename_i hc
        rw [if_pos hc]
        cases e
        exact ⟨_, rfl, h.set rfl⟩
      · cases e
    · cases e
end EQV
section EQW
variable {sc : aSc} {A B A1 : aH} {a : Nat}
theorem eqH.arrq (h : eqH A B) {q : Nat × vp_A} (e : aArr sc A a = some q) : ∃ c', aArr sc B a = some (q.1, q.2.1, c') ∧ (c' = q.2.2 ∨ eqK q.2.1 q.2.2 c') := by
  rcases aArr_or e with ⟨ha, h2⟩ | ⟨ha, h2⟩
  · refine ⟨q.2.2, (?_ : aArr sc B a = some q), Or.inl rfl⟩
    unfold aArr at h2 ⊢
    by_cases h0 : a = 0
    · simpa [h0] using h2
    · simpa [h0, ha] using h2
  · obtain ⟨c', g1, g2⟩ := h.arr h2
    refine ⟨c', ?_, Or.inr g2⟩
    unfold aArr
    rw [if_neg (by omega), if_neg ha, g1]
theorem eqH.rdI (h : eqH A B) {t : Nat} {i : Int32} {w : Value} (e : aRdI sc A a t i = some w) : aRdI sc B a t i = some w := by
  unfold aRdI at e ⊢
  split at e
  · rename_i t' n f e1
    obtain ⟨c', h1, h2⟩ := h.arrq e1
    rw [h1]
    split at e
    · rename_i hc
      rcases h2 with rfl | h2
      · dsimp only
        rw [if_pos hc]
        exact e
      · cases c' with
        | inl g =>
          dsimp only at h2 ⊢
          rw [if_pos hc]
          simp only [eqK] at h2
          rw [← h2 _ (Nat.lt_of_not_le (fun hh => hc.2 (Or.inr hh)))]
          exact e
        | inr g => exact absurd h2 (by simp [eqK])
    · cases e
  · cases e
theorem eqH.rdL (h : eqH A B) {i : Int32} {w : Value} (e : aRdL sc A a i = some w) : aRdL sc B a i = some w := by
  unfold aRdL at e ⊢
  split at e
  · rename_i t' n f e1
    obtain ⟨c', h1, h2⟩ := h.arrq e1
    rw [h1]
    split at e
    · rename_i hc
      rcases h2 with rfl | h2
      · dsimp only
        rw [if_pos hc]
        exact e
      · match c', h2 with
        | .inr (.inl g), h2 =>
          dsimp only at h2 ⊢
          rw [if_pos hc]
          simp only [eqK] at h2
          rw [← h2 _ (Nat.lt_of_not_le (fun hh => hc.2 (Or.inr hh)))]
          exact e
        | .inl g, h2 => exact absurd h2 (by simp [eqK])
        | .inr (.inr g), h2 => exact absurd h2 (by simp [eqK])
    · cases e
  · cases e
theorem eqH.rdR (h : eqH A B) {i : Int32} {w : Value} (e : aRdR sc A a i = some w) : aRdR sc B a i = some w := by
  unfold aRdR at e ⊢
  split at e
  · rename_i t' n f e1
    obtain ⟨c', h1, h2⟩ := h.arrq e1
    rw [h1]
    split at e
    · rename_i hc
      rcases h2 with rfl | h2
      · dsimp only
        rw [if_pos hc]
        exact e
      · match c', h2 with
        | .inr (.inr (.inr (.inr g))), h2 =>
          dsimp only at h2 ⊢
          rw [if_pos hc]
          simp only [eqK] at h2
          rw [← h2 _ (Nat.lt_of_not_le (fun hh => hc.2.2.2 (Or.inr hh)))]
          exact e
        | .inl g, h2 => exact absurd h2 (by simp [eqK])
        | .inr (.inl g), h2 => exact absurd h2 (by simp [eqK])
        | .inr (.inr (.inl g)), h2 => exact absurd h2 (by simp [eqK])
        | .inr (.inr (.inr (.inl g))), h2 => exact absurd h2 (by simp [eqK])
    · cases e
  · cases e
theorem eqH.wrI (h : eqH A B) {t : Nat} {i x : Int32} (e : aWrI A a t i x = some A1) : ∃ B1, aWrI B a t i x = some B1 ∧ eqH A1 B1 := by
  unfold aWrI at e ⊢
  split at e
  · cases e
  · rename_i ha
    rw [if_neg ha]
    split at e
    · rename_i t' n f e1
      obtain ⟨c', h1, h2⟩ := h.arr e1
      rw [h1]
      split at e
      · rename_i hc
        cases e
        cases c' with
        | inr g => exact absurd h2 (by simp [eqK])
        | inl g =>
          dsimp only
          rw [if_pos hc]
          refine ⟨_, rfl, h.set ⟨rfl, rfl, ?_⟩⟩
          simp only [eqK] at h2 ⊢
          intro j hj
          unfold upd
          split
          · rfl
          · exact h2 j hj
      · cases e
    · cases e
end EQW
