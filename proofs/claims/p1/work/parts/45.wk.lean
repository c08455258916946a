/-! LOCALS THAT ARE NOT READ: a run with fewer of them known is a run with more -/
def wk (l m : aL) : Prop := l.length = m.length ∧ ∀ (i : Nat) (v : Value), l[i]? = some (some v) → m[i]? = some (some v)
section WK
variable {sc : aSc} {ls ls2 ls' : aL} {st st' : List Value} {A A1 : aH} {pc pc' n i : Nat} {v : Value} {c : aC}
theorem w0 : wk [] [] := ⟨rfl, fun i v h => by simp at h⟩
theorem wN {l m : aL} {y : Option Value} (h : wk l m) : wk (none :: l) (y :: m) := by
  refine ⟨by simp [h.1], fun i v e => ?_⟩
  cases i with
  | zero => simp at e
  | succ k => simpa using h.2 k v (by simpa using e)
theorem wS {l m : aL} {y : Option Value} (h : wk l m) : wk (y :: l) (y :: m) := by
  refine ⟨by simp [h.1], fun i v e => ?_⟩
  cases i with
  | zero => simpa using e
  | succ k => simpa using h.2 k v (by simpa using e)
theorem wk.refl {l : aL} : wk l l := ⟨rfl, fun _ _ h => h⟩
theorem wk.ld (h : wk ls ls2) (e : aLd ls i = some v) : aLd ls2 i = some v := by
  unfold aLd at e ⊢
  split at e
  · rename_i w hw
    cases e
    rw [h.2 _ _ hw]
  · cases e
theorem wk.set {o : Option Value} (h : wk ls ls2) : wk (ls.set i o) (ls2.set i o) := by
  refine ⟨by simp [h.1], fun k w e => ?_⟩
  rw [List.getElem?_set] at e ⊢
  by_cases hk : i = k
  · rw [if_pos hk] at e ⊢
    rw [← h.1]
    exact e
  · rw [if_neg hk] at e ⊢
    exact h.2 k w e
theorem wk.setR {o : Option Value} (h : wk ls ls2) (hn : ∀ w, ls[i]? ≠ some (some w)) : wk ls (ls2.set i o) := by
  refine ⟨by simp [h.1], fun k w e => ?_⟩
  rw [List.getElem?_set]
  by_cases hk : i = k
  · subst hk
    exact absurd e (hn w)
  · rw [if_neg hk]
    exact h.2 k w e
theorem wk.kill (h : wk ls ls2) : wk (aKill ls i) (aKill ls2 i) := by
  cases i with
  | zero => exact h
  | succ j =>
    unfold aKill
    dsimp only
    cases hj : ls[j]? with
    | none =>
      have h2 : ls2[j]? = none := by
        rw [List.getElem?_eq_none_iff] at hj ⊢
        rw [← h.1]
        exact hj
      rw [h2]
      exact h
    | some o =>
      cases o with
      | none =>
        have hn : ∀ w, ls[j]? ≠ some (some w) := fun w e => by rw [hj] at e; cases e
        dsimp only
        split
        · exact h.setR hn
        · exact h.setR hn
        · exact h
      | some w =>
        rw [h.2 j w hj]
        cases w <;> first | exact h | exact h.set
theorem wk.st1 (h : wk ls ls2) : wk (aSt1 ls i v) (aSt1 ls2 i v) := h.kill.set
theorem wk.st2 (h : wk ls ls2) : wk (aSt2 ls i v) (aSt2 ls2 i v) := h.kill.set.set
set_option maxHeartbeats 4000000 in
theorem aStep_wk {ii : aI} (h : wk ls ls2) (e : aStep sc ii pc ls st A = some (pc', ls', st', A1)) : ∃ ls3, aStep sc ii pc ls2 st A = some (pc', ls3, st', A1) ∧ wk ls' ls3 := by
  obtain ⟨ins, x, y, w⟩ := ii
  cases ins
  case iload_n k | iload k =>
    simp only [aStep, aLdI] at e ⊢
    split at e
    · rename_i z hz
      simp only [Option.some.injEq, Prod.mk.injEq] at e
      obtain ⟨rfl, rfl, rfl, rfl⟩ := e
      rw [h.ld hz]
      exact ⟨_, rfl, h⟩
    · cases e
  case lload_n k | lload k =>
    simp only [aStep, aLdL] at e ⊢
    split at e
    · rename_i z hz
      simp only [Option.some.injEq, Prod.mk.injEq] at e
      obtain ⟨rfl, rfl, rfl, rfl⟩ := e
      rw [h.ld hz]
      exact ⟨_, rfl, h⟩
    · cases e
  case aload_n k | aload k =>
    simp only [aStep, aLdA] at e ⊢
    split at e
    · rename_i z hz
      simp only [Option.some.injEq, Prod.mk.injEq] at e
      obtain ⟨rfl, rfl, rfl, rfl⟩ := e
      rw [h.ld hz]
      exact ⟨_, rfl, h⟩
    · rename_i hz
      simp only [Option.some.injEq, Prod.mk.injEq] at e
      obtain ⟨rfl, rfl, rfl, rfl⟩ := e
      rw [h.ld hz]
      exact ⟨_, rfl, h⟩
    · cases e
  case istore_n k | istore k =>
    simp only [aStep, aStI] at e ⊢
    split at e
    · split at e
      · rename_i hk
        simp only [Option.some.injEq, Prod.mk.injEq] at e
        obtain ⟨rfl, rfl, rfl, rfl⟩ := e
        rw [h.1] at hk
        rw [if_pos hk]
        exact ⟨_, rfl, h.st1⟩
      · cases e
    · cases e
  case lstore_n k | lstore k =>
    simp only [aStep, aStL] at e ⊢
    split at e
    · split at e
      · rename_i hk
        simp only [Option.some.injEq, Prod.mk.injEq] at e
        obtain ⟨rfl, rfl, rfl, rfl⟩ := e
        rw [h.1] at hk
        rw [if_pos hk]
        exact ⟨_, rfl, h.st2⟩
      · cases e
    · cases e
  case astore_n k | astore k =>
    simp only [aStep, aStA] at e ⊢
    split at e
    · split at e
      · rename_i hk
        simp only [Option.some.injEq, Prod.mk.injEq] at e
        obtain ⟨rfl, rfl, rfl, rfl⟩ := e
        rw [h.1] at hk
        rw [if_pos hk]
        exact ⟨_, rfl, h.st1⟩
      · cases e
    · split at e
      · rename_i hk
        simp only [Option.some.injEq, Prod.mk.injEq] at e
        obtain ⟨rfl, rfl, rfl, rfl⟩ := e
        rw [h.1] at hk
        rw [if_pos hk]
        exact ⟨_, rfl, h.st1⟩
      · cases e
    · cases e
  case iinc k m =>
    simp only [aStep] at e ⊢
    split at e
    · rename_i z hz
      split at e
      · rename_i hk
        simp only [Option.some.injEq, Prod.mk.injEq] at e
        obtain ⟨rfl, rfl, rfl, rfl⟩ := e
        rw [h.ld hz]
        dsimp only
        rw [h.1] at hk
        rw [if_pos hk]
        exact ⟨_, rfl, h.st1⟩
      · cases e
    · cases e
  all_goals (simp only [aStep, aI2, aL2, aLS, aBr, aPush] at e ⊢)
  all_goals (repeat' (split at e))
  all_goals first
    | (cases e; done)
    | (simp only [Option.some.injEq, Prod.mk.injEq] at e; obtain ⟨rfl, rfl, rfl, rfl⟩ := e; exact ⟨_, rfl, h⟩)
    | (simp only [Option.some.injEq, Prod.mk.injEq] at e; obtain ⟨rfl, rfl, rfl, rfl⟩ := e; simp_all)
end WK
theorem aRun_wk {sc : aSc} : ∀ (n d M pc : Nat) (ls ls2 : aL) (st : List Value) (A : aH) (r : Outcome × aH), wk ls ls2 → aRun sc n d M pc ls st A = some r → aRun sc n d M pc ls2 st A = some r := by
  intro n
  induction n with
  | zero => intro d M pc ls ls2 st A r w h; simp [aRun] at h
  | succ n ih =>
    intro d M pc ls ls2 st A r w h
    cases hi : aTb M pc with
    | none => rw [aRun_none hi] at h; cases h
    | some i =>
      rcases aKd_cases i with hk | hk | hk | hk | hk
      · rw [aRun_0 hi hk] at h ⊢
        cases hs : aStep sc i pc ls st A with
        | none => rw [hs] at h; cases h
        | some q =>
          rw [hs] at h
          obtain ⟨q1, q2, q3, q4⟩ := q
          obtain ⟨ls3, g1, g2⟩ := aStep_wk w hs
          rw [g1]
          exact ih _ _ _ _ _ _ _ _ g2 h
      · rw [aRun_1 hi hk] at h ⊢; exact h
      · rw [aRun_2 hi hk] at h ⊢; exact h
      · rw [aRun_3 hi hk] at h ⊢; exact h
      · cases d with
        | zero => rw [aRun_4z hi hk] at h; cases h
        | succ d1 =>
          rw [aRun_4 hi hk] at h ⊢
          unfold aCallB at h ⊢
          split at h
          · rename_i hc
            rw [if_pos hc]
            split at h
            · rename_i h0
              rw [if_pos h0]
              split at h
              · exact ih _ _ _ _ _ _ _ _ w h
              · cases h
            · rename_i h0
              rw [if_neg h0]
              split at h
              · rename_i h1
                rw [if_pos h1]
                split at h
                · rename_i n9 dp a sp a0 r9
                  cases hq : aCopy A a0 sp a dp n9 with
                  | none => rw [hq] at h; cases h
                  | some A9 =>
                    rw [hq] at h
                    exact ih _ _ _ _ _ _ _ _ w h
                · cases h
              · rename_i h1
                rw [if_neg h1]
                split at h
                · rename_i h2
                  rw [if_pos h2]
                  cases hq : aRun sc n d1 i.2.1 0 (aEntry (aMx i.2.1) ((st.take i.2.2.1).reverse)) [] A with
                  | none => rw [hq] at h; cases h
                  | some q =>
                    rw [hq] at h
                    obtain ⟨o9, A9⟩ := q
                    cases o9 with
                    | returned v => exact ih _ _ _ _ _ _ _ _ w h
                    | threw x =>
                      dsimp only at h ⊢
                      cases hh : aHd M with
                      | nil => rw [hh] at h; exact h
                      | cons e1 es =>
                        rw [hh] at h
                        dsimp only at h ⊢
                        cases hc2 : aCl A9 (.ref x) with
                        | none => rw [hc2] at h; cases h
                        | some ci =>
                          rw [hc2] at h
                          dsimp only at h ⊢
                          cases hc3 : aHdl (e1 :: es) pc ci with
                          | none => rw [hc3] at h; cases h
                          | some hp =>
                            rw [hc3] at h
                            exact ih _ _ _ _ _ _ _ _ w h
                · cases h
          · cases h
