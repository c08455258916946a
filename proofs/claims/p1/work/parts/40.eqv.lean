theorem eqH.go {M : Nat} {A B : aH} {vs : List Value} (h : eqH A B) (e : aGo M A vs = true) : aGo M B vs = true := by
  unfold aGo at e ⊢
  rw [Bool.and_eq_true] at e ⊢
  refine ⟨e.1, ?_⟩
  have e2 := e.2
  cases hc : aIc M with
  | none => rfl
  | some ci =>
    rw [hc] at e2
    cases vs with
    | nil => exact e2
    | cons u us =>
      dsimp only at e2 ⊢
      rw [beq_iff_eq] at e2 ⊢
      exact h.cl e2
theorem aRun_eqv {sc : aSc} : ∀ (n d M pc : Nat) (ls : aL) (st : List Value) (A B : aH) (o : Outcome) (A' : aH), eqH A B → aRun sc n d M pc ls st A = some (o, A') → ∃ B', aRun sc n d M pc ls st B = some (o, B') ∧ eqH A' B' := by
  intro n
  induction n with
  | zero => intro d M pc ls st A B o A' hE h; simp [aRun] at h
  | succ n ih =>
    intro d M pc ls st A B o A' hE h
    have hend : ∀ i : aI, ¬ aKd i = 0 → aEndB M st A i = some (o, A') → ∃ B', aEndB M st B i = some (o, B') ∧ eqH A' B' := by
      intro i _ e
      unfold aEndB at e ⊢
      split at e
      · split at e
        · split at e
          · rename_i hr
            rw [if_pos hr]
            cases e
            exact ⟨B, rfl, hE⟩
          · cases e
        · cases e
      · split at e
        · split at e
          · rename_i ty hr
            split at e
            · rename_i hf
              rw [if_pos hf]
              cases e
              exact ⟨B, rfl, hE⟩
            · cases e
          · cases e
        · cases e
      · split at e
        · rename_i hc
          rw [if_pos hc]
          cases e
          exact ⟨B ++ [.inr (i.2.1, [])], by rw [hE.1], hE.push (x := .inr (i.2.1, [])) (y := .inr (i.2.1, [])) rfl⟩
        · cases e
    cases hi : aTb M pc with
    | none => rw [aRun_none hi] at h; cases h
    | some i =>
      rcases aKd_cases i with hk | hk | hk | hk | hk
      · rw [aRun_0 hi hk] at h
        rw [aRun_0 hi hk]
        cases hs : aStep sc i pc ls st A with
        | none => rw [hs] at h; cases h
        | some q =>
          rw [hs] at h
          obtain ⟨q1, q2, q3, q4⟩ := q
          obtain ⟨B1, g1, g2⟩ := aStep_eqv hE hs
          rw [g1]
          exact ih _ _ _ _ _ _ _ _ _ g2 h
      · rw [aRun_1 hi hk] at h
        rw [aRun_1 hi hk]
        exact hend i (by rw [hk]; decide) h
      · rw [aRun_2 hi hk] at h
        rw [aRun_2 hi hk]
        exact hend i (by rw [hk]; decide) h
      · rw [aRun_3 hi hk] at h
        rw [aRun_3 hi hk]
        exact hend i (by rw [hk]; decide) h
      · cases d with
        | zero => rw [aRun_4z hi hk] at h; cases h
        | succ d1 =>
          rw [aRun_4 hi hk] at h
          rw [aRun_4 hi hk]
          unfold aCallB at h ⊢
          split at h
          · rename_i hc
            rw [if_pos hc]
            split at h
            · rename_i h0
              rw [if_pos h0]
              split at h
              · exact ih _ _ _ _ _ _ _ _ _ hE h
              · cases h
            · rename_i h0
              rw [if_neg h0]
              split at h
              · rename_i h1
                rw [if_pos h1]
                split at h
                · rename_i n9 dp a sp a0 r9
                  cases hq : aCopy A a0 sp a dp n9 with
                  | none => rw [hq] at h; cases h
                  | some A9 =>
                    rw [hq] at h
                    obtain ⟨B9, g1, g2⟩ := hE.copy hq
                    rw [g1]
                    exact ih _ _ _ _ _ _ _ _ _ g2 h
                · cases h
              · rename_i h1
                rw [if_neg h1]
                split at h
                · rename_i h2
                  rw [if_pos ⟨h2.1, hE.go h2.2⟩]
                  cases hq : aRun sc n d1 i.2.1 0 (aEntry (aMx i.2.1) ((st.take i.2.2.1).reverse)) [] A with
                  | none => rw [hq] at h; cases h
                  | some q =>
                    rw [hq] at h
                    obtain ⟨o9, A9⟩ := q
                    obtain ⟨B9, g1, g2⟩ := ih _ _ _ _ _ _ _ _ _ hE hq
                    rw [g1]
                    cases o9 with
                    | returned v => exact ih _ _ _ _ _ _ _ _ _ g2 h
                    | threw x =>
                      dsimp only at h ⊢
                      cases hh : aHd M with
                      | nil =>
                        rw [hh] at h
                        cases h
                        exact ⟨B9, rfl, g2⟩
                      | cons e1 es =>
                        rw [hh] at h
                        dsimp only at h ⊢
                        cases hc2 : aCl A9 (.ref x) with
                        | none => rw [hc2] at h; cases h
                        | some ci =>
                          rw [hc2] at h
                          rw [g2.cl hc2]
                          dsimp only at h ⊢
                          cases hc3 : aHdl (e1 :: es) pc ci with
                          | none => rw [hc3] at h; cases h
                          | some hp =>
                            rw [hc3] at h
                            exact ih _ _ _ _ _ _ _ _ _ g2 h
                · cases h
          · cases h
theorem eqH.sum {A B : aH} (h : eqH A B) : aSum A = aSum B := by
  unfold aSum
  congr 1
  apply List.ext_getElem?
  intro k
  rw [List.getElem?_map, List.getElem?_map]
  cases hk : A[k]? with
  | none =>
    have h1 : A.length ≤ k := List.getElem?_eq_none_iff.mp hk
    rw [List.getElem?_eq_none (by rw [← h.1]; exact h1)]
  | some x =>
    obtain ⟨y, h1, h2⟩ := h.2 k x hk
    rw [h1]
    cases x with
    | inl p =>
      cases y with
      | inl q => simp only [eqC] at h2; simp [aSl, h2.2.1]
      | inr q => exact absurd h2 (by simp [eqC])
    | inr p =>
      cases y with
      | inl q => exact absurd h2 (by simp [eqC])
      | inr q => simp only [eqC] at h2; rw [h2]
