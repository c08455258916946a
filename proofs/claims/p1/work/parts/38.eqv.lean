section EQX
variable {sc : aSc} {A B A1 : aH} {a : Nat}
theorem eqH.wrL (h : eqH A B) {i : Int32} {x : Int64} (e : aWrL A a i x = some A1) : ∃ B1, aWrL B a i x = some B1 ∧ eqH A1 B1 := by
  unfold aWrL at e ⊢
  split at e
  · cases e
  · rename_i ha
    rw [if_neg ha]
    split at e
    · rename_i t' n f e1
      obtain ⟨c', h1, h2⟩ := h.arr e1
      rw [h1]
      split at e
      · rename_i hc
        cases e
        match c', h2 with
        | .inr (.inl g), h2 =>
          dsimp only
          rw [if_pos hc]
          refine ⟨_, rfl, h.set ⟨rfl, rfl, ?_⟩⟩
          simp only [eqK] at h2 ⊢
          intro j hj
          unfold vp_updL
          split
          · rfl
          · exact h2 j hj
        | .inl g, h2 => exact absurd h2 (by simp [eqK])
        | .inr (.inr g), h2 => exact absurd h2 (by simp [eqK])
      · cases e
    · cases e
theorem eqH.wrR (h : eqH A B) {i : Int32} {v : Nat} (e : aWrR A a i v = some A1) : ∃ B1, aWrR B a i v = some B1 ∧ eqH A1 B1 := by
  unfold aWrR at e ⊢
  split at e
  · cases e
  · rename_i ha
    rw [if_neg ha]
    split at e
    · rename_i t n f e1
      obtain ⟨c', h1, h2⟩ := h.arr e1
      rw [h1]
      split at e
      · rename_i q e2
        split at e
        · rename_i hc
          cases e
          match c', h2 with
          | .inr (.inr (.inr (.inr g))), h2 =>
            dsimp only
            rw [h.obj e2]
            dsimp only
            rw [if_pos hc]
            refine ⟨_, rfl, h.set ⟨rfl, rfl, ?_⟩⟩
            simp only [eqK] at h2 ⊢
            intro j hj
            unfold va_up
            split
            · rfl
            · exact h2 j hj
          | .inl g, h2 => exact absurd h2 (by simp [eqK])
          | .inr (.inl g), h2 => exact absurd h2 (by simp [eqK])
          | .inr (.inr (.inl g)), h2 => exact absurd h2 (by simp [eqK])
          | .inr (.inr (.inr (.inl g))), h2 => exact absurd h2 (by simp [eqK])
        · cases e
      · cases e
    · cases e
theorem eqH.copy (h : eqH A B) {a0 : Nat} {sp dp n : Int32} (e : aCopy A a0 sp a dp n = some A1) : ∃ B1, aCopy B a0 sp a dp n = some B1 ∧ eqH A1 B1 := by
  unfold aCopy at e ⊢
  split at e
  · cases e
  · rename_i ha
    rw [if_neg ha]
    split at e
    · rename_i t n0 f e1
      obtain ⟨c', h1, h2⟩ := h.arr e1
      rw [h1]
      split at e
      · rename_i t' n1 g e2
        obtain ⟨c2, h3, h4⟩ := h.arr e2
        split at e
        · rename_i hc
          cases e
          cases c' with
          | inr z => exact absurd h2 (by simp [eqK])
          | inl f' =>
            cases c2 with
            | inr z => exact absurd h4 (by simp [eqK])
            | inl g' =>
              dsimp only
              rw [h3]
              dsimp only
              rw [if_pos hc]
              refine ⟨_, rfl, h.set ⟨rfl, rfl, ?_⟩⟩
              simp only [eqK] at h2 h4 ⊢
              intro j hj
              unfold va_cpy
              split
              · rename_i hr
                exact h2 _ (by omega)
              · exact h4 j hj
        · cases e
      · cases e
    · cases e
end EQX
