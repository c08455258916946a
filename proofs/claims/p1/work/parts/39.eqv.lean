section EQY
variable {sc : aSc} {A B A1 : aH} {i : aI} {pc pc' : Nat} {ls ls' : aL} {st st' : List Value}
set_option maxHeartbeats 4000000 in
theorem aStep_eqv (h : eqH A B) (e : aStep sc i pc ls st A = some (pc', ls', st', A1)) : ∃ B1, aStep sc i pc ls st B = some (pc', ls', st', B1) ∧ eqH A1 B1 := by
  obtain ⟨ins, x, y, v⟩ := i
  cases ins
  case getfield =>
    simp only [aStep, aPush] at e ⊢
    split at e
    · split at e
      · rename_i w e1
        simp only [Option.some.injEq, Prod.mk.injEq] at e
        obtain ⟨rfl, rfl, rfl, rfl⟩ := e
        rw [h.fld e1]
        exact ⟨B, rfl, h⟩
      · cases e
    · cases e
  case putfield =>
    simp only [aStep] at e ⊢
    split at e
    · split at e
      · rename_i A2 e1
        simp only [Option.some.injEq, Prod.mk.injEq] at e
        obtain ⟨rfl, rfl, rfl, rfl⟩ := e
        obtain ⟨B1, g1, g2⟩ := h.put e1
        rw [g1]
        exact ⟨B1, rfl, g2⟩
      · cases e
    · cases e
  case iaload =>
    simp only [aStep, aPush] at e ⊢
    split at e
    · split at e
      · rename_i w e1
        simp only [Option.some.injEq, Prod.mk.injEq] at e
        obtain ⟨rfl, rfl, rfl, rfl⟩ := e
        rw [h.rdI e1]
        exact ⟨B, rfl, h⟩
      · cases e
    · cases e
  case caload =>
    simp only [aStep, aPush] at e ⊢
    split at e
    · split at e
      · rename_i w e1
        simp only [Option.some.injEq, Prod.mk.injEq] at e
        obtain ⟨rfl, rfl, rfl, rfl⟩ := e
        rw [h.rdI e1]
        exact ⟨B, rfl, h⟩
      · cases e
    · cases e
  case baload =>
    simp only [aStep, aPush] at e ⊢
    split at e
    · split at e
      · rename_i w e1
        simp only [Option.some.injEq, Prod.mk.injEq] at e
        obtain ⟨rfl, rfl, rfl, rfl⟩ := e
        rw [h.rdI e1]
        exact ⟨B, rfl, h⟩
      · cases e
    · cases e
  case laload =>
    simp only [aStep, aPush] at e ⊢
    split at e
    · split at e
      · rename_i w e1
        simp only [Option.some.injEq, Prod.mk.injEq] at e
        obtain ⟨rfl, rfl, rfl, rfl⟩ := e
        rw [h.rdL e1]
        exact ⟨B, rfl, h⟩
      · cases e
    · cases e
  case aaload =>
    simp only [aStep, aPush] at e ⊢
    split at e
    · split at e
      · rename_i w e1
        simp only [Option.some.injEq, Prod.mk.injEq] at e
        obtain ⟨rfl, rfl, rfl, rfl⟩ := e
        rw [h.rdR e1]
        exact ⟨B, rfl, h⟩
      · cases e
    · cases e
  case iastore =>
    simp only [aStep] at e ⊢
    split at e
    · split at e
      · rename_i A2 e1
        simp only [Option.some.injEq, Prod.mk.injEq] at e
        obtain ⟨rfl, rfl, rfl, rfl⟩ := e
        obtain ⟨B1, g1, g2⟩ := h.wrI e1
        rw [g1]
        exact ⟨B1, rfl, g2⟩
      · cases e
    · cases e
  case castore =>
    simp only [aStep] at e ⊢
    split at e
    · split at e
      · rename_i A2 e1
        simp only [Option.some.injEq, Prod.mk.injEq] at e
        obtain ⟨rfl, rfl, rfl, rfl⟩ := e
        obtain ⟨B1, g1, g2⟩ := h.wrI e1
        rw [g1]
        exact ⟨B1, rfl, g2⟩
      · cases e
    · cases e
  case bastore =>
    simp only [aStep] at e ⊢
    split at e
    · split at e
      · rename_i A2 e1
        simp only [Option.some.injEq, Prod.mk.injEq] at e
        obtain ⟨rfl, rfl, rfl, rfl⟩ := e
        obtain ⟨B1, g1, g2⟩ := h.wrI e1
        rw [g1]
        exact ⟨B1, rfl, g2⟩
      · cases e
    · cases e
  case lastore =>
    simp only [aStep] at e ⊢
    split at e
    · split at e
      · rename_i A2 e1
        simp only [Option.some.injEq, Prod.mk.injEq] at e
        obtain ⟨rfl, rfl, rfl, rfl⟩ := e
        obtain ⟨B1, g1, g2⟩ := h.wrL e1
        rw [g1]
        exact ⟨B1, rfl, g2⟩
      · cases e
    · cases e
  case aastore =>
    simp only [aStep] at e ⊢
    split at e
    · split at e
      · rename_i A2 e1
        simp only [Option.some.injEq, Prod.mk.injEq] at e
        obtain ⟨rfl, rfl, rfl, rfl⟩ := e
        obtain ⟨B1, g1, g2⟩ := h.wrR e1
        rw [g1]
        exact ⟨B1, rfl, g2⟩
      · cases e
    · cases e
  case arraylength =>
    simp only [aStep] at e ⊢
    split at e
    · split at e
      · rename_i q e1
        split at e
        · rename_i hc
          simp only [Option.some.injEq, Prod.mk.injEq] at e
          obtain ⟨rfl, rfl, rfl, rfl⟩ := e
          obtain ⟨c', g1, -⟩ := h.arrq e1
          rw [g1]
          dsimp only
          rw [if_pos hc]
          exact ⟨B, rfl, h⟩
        · cases e
      · cases e
    · cases e
  case new =>
    simp only [aStep, Option.some.injEq, Prod.mk.injEq] at e ⊢
    obtain ⟨rfl, rfl, rfl, rfl⟩ := e
    exact ⟨_, ⟨rfl, rfl, by rw [h.1], rfl⟩, h.push rfl⟩
  case newarray t =>
    simp only [aStep] at e ⊢
    split at e
    · rename_i n r
      cases hq : aNewA t with
      | none => rw [hq] at e; cases e
      | some q =>
        rw [hq] at e
        dsimp only at e ⊢
        split at e
        · cases e
        · rename_i hc
          rw [if_neg hc]
          simp only [Option.some.injEq, Prod.mk.injEq] at e ⊢
          obtain ⟨rfl, rfl, rfl, rfl⟩ := e
          refine ⟨_, ⟨rfl, rfl, by rw [h.1], rfl⟩, h.push ⟨rfl, rfl, ?_⟩⟩
          cases t <;> simp [aNewA] at hq <;> subst hq <;> simp [eqK]
    · cases e
  case anewarray =>
    simp only [aStep] at e ⊢
    split at e
    · split at e
      · cases e
      · rename_i hc
        rw [if_neg hc]
        simp only [Option.some.injEq, Prod.mk.injEq] at e ⊢
        obtain ⟨rfl, rfl, rfl, rfl⟩ := e
        exact ⟨_, ⟨rfl, rfl, by rw [h.1], rfl⟩, h.push ⟨rfl, rfl, by simp [eqK]⟩⟩
    · cases e
  all_goals (simp only [aStep, aLdI, aLdL, aLdA, aStI, aStL, aStA, aI2, aL2, aLS, aBr] at e ⊢)
  all_goals (repeat' (split at e))
  all_goals first
    | (cases e; done)
    | (simp only [Option.some.injEq, Prod.mk.injEq] at e; obtain ⟨rfl, rfl, rfl, rfl⟩ := e; exact ⟨B, by simp_all, h⟩)
end EQY
