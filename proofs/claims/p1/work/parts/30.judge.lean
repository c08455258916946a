/-! THE PURE PART: runs of the interpreter, without their fuel -/
/-- a call's step -/
def aCallB (sc : aSc) (n d' M pc : Nat) (ls : aL) (st : List Value) (A : aH) (i : aI) : Option (Outcome × aH) :=
  if (st.map (fun v => v.category)).sum ≤ 40 then
    if i.2.1 = 0 then match st with
      | .ref _ :: r => aRun sc n (d' + 1) M (pc + 3) ls r A
      | _ => none
    else if i.2.1 = 1 then match st with
      | .int n' :: .int dp :: .ref a :: .int sp :: .ref a0 :: r => match aCopy A a0 sp a dp n' with
        | some A' => aRun sc n (d' + 1) M (pc + 3) ls r A'
        | none => none
      | _ => none
    else if i.2.2.1 ≤ st.length ∧ aGo i.2.1 A ((st.take i.2.2.1).reverse) = true then
      match aRun sc n d' i.2.1 0 (aEntry (aMx i.2.1) ((st.take i.2.2.1).reverse)) [] A with
      | some (.returned v, A') => aRun sc n (d' + 1) M (pc + 3) ls (v.toList ++ st.drop i.2.2.1) A'
      | some (.threw a, A') => match aHd M with
        | [] => some (.threw a, A')
        | hs => match aCl A' (.ref a) with
          | some ci => match aHdl hs pc ci with
            | some h => aRun sc n (d' + 1) M h ls [.ref a] A'
            | none => none
          | none => none
      | none => none
    else none
  else none
def aEndB (M : Nat) (st : List Value) (A : aH) (i : aI) : Option (Outcome × aH) := match aKd i with
  | 1 => match st with
    | [] => if aRt M = none then some (.returned none, A) else none
    | _ => none
  | 2 => match st with
    | [v] => match aRt M with
      | some ty => if aFit ty v = true then some (.returned (some v), A) else none
      | none => none
    | _ => none
  | _ => if aHx M = [] ∧ (st.map (fun v => v.category)).sum ≤ 40 then some (.threw (1000 + A.length), A ++ [.inr (i.2.1, [])]) else none
section UNF
variable {sc : aSc} {n d M pc : Nat} {ls : aL} {st : List Value} {A : aH} {i : aI}
theorem aRun_none (hi : aTb M pc = none) : aRun sc (n + 1) d M pc ls st A = none := by
  rw [aRun.eq_def]
  simp only [hi]
theorem aRun_0 (hi : aTb M pc = some i) (hk : aKd i = 0) : aRun sc (n + 1) d M pc ls st A = match aStep sc i pc ls st A with
    | some q => aRun sc n d M q.1 q.2.1 q.2.2.1 q.2.2.2
    | none => none := by
  rw [aRun.eq_def]
  simp only [hi, hk]
  try rfl
theorem aRun_1 (hi : aTb M pc = some i) (hk : aKd i = 1) : aRun sc (n + 1) d M pc ls st A = aEndB M st A i := by
  rw [aRun.eq_def]
  unfold aEndB
  simp only [hi, hk]
  try rfl
theorem aRun_2 (hi : aTb M pc = some i) (hk : aKd i = 2) : aRun sc (n + 1) d M pc ls st A = aEndB M st A i := by
  rw [aRun.eq_def]
  unfold aEndB
  simp only [hi, hk]
  try rfl
theorem aRun_3 (hi : aTb M pc = some i) (hk : aKd i = 3) : aRun sc (n + 1) d M pc ls st A = aEndB M st A i := by
  rw [aRun.eq_def]
  unfold aEndB
  simp only [hi, hk]
  try rfl
theorem aRun_4z (hi : aTb M pc = some i) (hk : aKd i = 4) : aRun sc (n + 1) 0 M pc ls st A = none := by
  rw [aRun.eq_def]
  simp only [hi, hk]
theorem aRun_4 (hi : aTb M pc = some i) (hk : aKd i = 4) : aRun sc (n + 1) (d + 1) M pc ls st A = aCallB sc n d M pc ls st A i := by
  rw [aRun.eq_def]
  simp only [hi, hk]
  rfl
end UNF
theorem aRun_up {sc : aSc} : ∀ (n d M pc : Nat) (ls : aL) (st : List Value) (A : aH) (r : Outcome × aH), aRun sc n d M pc ls st A = some r → ∀ n' d', n ≤ n' → d ≤ d' → aRun sc n' d' M pc ls st A = some r := by
  intro n
  induction n with
  | zero => intro d M pc ls st A r h; simp [aRun] at h
  | succ n ih =>
    intro d M pc ls st A r h n' d' hn hd
    obtain ⟨k, rfl⟩ : ∃ k, n' = k + 1 := ⟨n' - 1, by omega⟩
    cases hi : aTb M pc with
    | none => rw [aRun_none hi] at h; cases h
    | some i =>
      rcases aKd_cases i with hk | hk | hk | hk | hk
      · rw [aRun_0 hi hk] at h ⊢
        cases hs : aStep sc i pc ls st A with
        | none => rw [hs] at h; cases h
        | some q =>
          rw [hs] at h
          exact ih _ _ _ _ _ _ _ h _ _ (by omega) hd
      · rw [aRun_1 hi hk] at h ⊢; exact h
      · rw [aRun_2 hi hk] at h ⊢; exact h
      · rw [aRun_3 hi hk] at h ⊢; exact h
      · cases d with
        | zero => rw [aRun_4z hi hk] at h; cases h
        | succ d1 =>
          obtain ⟨d2, rfl⟩ : ∃ d2, d' = d2 + 1 := ⟨d' - 1, by omega⟩
          rw [aRun_4 hi hk] at h ⊢
          unfold aCallB at h ⊢
          split at h
          · rename_i hc
            rw [if_pos hc]
            split at h
            · rename_i h0
              rw [if_pos h0]
              split at h
              · exact ih _ _ _ _ _ _ _ h _ _ (by omega) hd
              · cases h
            · rename_i h0
              rw [if_neg h0]
              split at h
              · rename_i h1
                rw [if_pos h1]
                split at h
                · rename_i n9 dp a sp a0 r9
                  cases hq : aCopy A a0 sp a dp n9 with
                  | none => rw [hq] at h; cases h
                  | some A9 =>
                    rw [hq] at h
                    exact ih _ _ _ _ _ _ _ h _ _ (by omega) hd
                · cases h
              · rename_i h1
                rw [if_neg h1]
                split at h
                · rename_i h2
                  rw [if_pos h2]
                  cases hq : aRun sc n d1 i.2.1 0 (aEntry (aMx i.2.1) ((st.take i.2.2.1).reverse)) [] A with
                  | none => rw [hq] at h; cases h
                  | some q =>
                    rw [hq] at h
                    rw [ih _ _ _ _ _ _ _ hq k d2 (by omega) (by omega)]
                    obtain ⟨o9, A9⟩ := q
                    cases o9 with
                    | returned v => exact ih _ _ _ _ _ _ _ h _ _ (by omega) hd
                    | threw x =>
                      dsimp only at h ⊢
                      cases hh : aHd M with
                      | nil => rw [hh] at h; exact h
                      | cons e1 es =>
                        rw [hh] at h
                        dsimp only at h ⊢
                        cases hc2 : aCl A9 (.ref x) with
                        | none => rw [hc2] at h; cases h
                        | some ci =>
                          rw [hc2] at h
                          dsimp only at h ⊢
                          cases hc3 : aHdl (e1 :: es) pc ci with
                          | none => rw [hc3] at h; cases h
                          | some hp =>
                            rw [hc3] at h
                            exact ih _ _ _ _ _ _ _ h _ _ (by omega) hd
                · cases h
          · cases h
/-! a run that does not read the script -/
section ANY
variable {sc : aSc} {f : Nat → Int32} {A : aH} {a : Nat}
theorem aArr_any {v : Value} {q : Nat × vp_A} (h : aArr (99999, f, v) A a = some q) : aArr sc A a = some q := by
  unfold aArr at h ⊢
  by_cases h0 : a = 0
  · simp [h0] at h
  · simpa [h0] using h
theorem aRdI_any {v w : Value} {t : Nat} {i : Int32} (h : aRdI (99999, f, v) A a t i = some w) : aRdI sc A a t i = some w := by
  unfold aRdI at h ⊢
  cases hq : aArr (99999, f, v) A a with
  | none => rw [hq] at h; cases h
  | some q => rw [aArr_any hq]; rw [hq] at h; exact h
theorem aRdL_any {v w : Value} {i : Int32} (h : aRdL (99999, f, v) A a i = some w) : aRdL sc A a i = some w := by
  unfold aRdL at h ⊢
  cases hq : aArr (99999, f, v) A a with
  | none => rw [hq] at h; cases h
  | some q => rw [aArr_any hq]; rw [hq] at h; exact h
theorem aRdR_any {v w : Value} {i : Int32} (h : aRdR (99999, f, v) A a i = some w) : aRdR sc A a i = some w := by
  unfold aRdR at h ⊢
  cases hq : aArr (99999, f, v) A a with
  | none => rw [hq] at h; cases h
  | some q => rw [aArr_any hq]; rw [hq] at h; exact h
theorem aPush_any {n pc : Nat} {ls : aL} {x y : Option Value} {st : List Value} {c : aC} (h : aPush n pc ls x st A = some c) (hxy : ∀ w, x = some w → y = some w) : aPush n pc ls y st A = some c := by
  unfold aPush at h ⊢
  cases x with
  | none => cases h
  | some w => rw [hxy w rfl]; exact h
theorem aStep_any {i : aI} {pc : Nat} {ls : aL} {st : List Value} {c : aC} (h : aStep (99999, f, sc.2.2) i pc ls st A = some c) : aStep sc i pc ls st A = some c := by
  obtain ⟨ins, x, y, v⟩ := i
  cases ins
  case iaload =>
    simp only [aStep] at h ⊢
    split at h
    · exact aPush_any h (fun w hw => aRdI_any hw)
    · cases h
  case caload =>
    simp only [aStep] at h ⊢
    split at h
    · exact aPush_any h (fun w hw => aRdI_any hw)
    · cases h
  case baload =>
    simp only [aStep] at h ⊢
    split at h
    · exact aPush_any h (fun w hw => aRdI_any hw)
    · cases h
  case laload =>
    simp only [aStep] at h ⊢
    split at h
    · exact aPush_any h (fun w hw => aRdL_any hw)
    · cases h
  case aaload =>
    simp only [aStep] at h ⊢
    split at h
    · exact aPush_any h (fun w hw => aRdR_any hw)
    · cases h
  case arraylength =>
    simp only [aStep] at h ⊢
    split at h
    · rename_i a r
      cases hq : aArr (99999, f, sc.2.2) A a with
      | none => rw [hq] at h; cases h
      | some q => rw [aArr_any hq]; rw [hq] at h; exact h
    · cases h
  all_goals exact h
end ANY
theorem aRun_any {sc : aSc} {f : Nat → Int32} : ∀ (n d M pc : Nat) (ls : aL) (st : List Value) (A : aH) (r : Outcome × aH), aRun (99999, f, sc.2.2) n d M pc ls st A = some r → aRun sc n d M pc ls st A = some r := by
  intro n
  induction n with
  | zero => intro d M pc ls st A r h; simp [aRun] at h
  | succ n ih =>
    intro d M pc ls st A r h
    cases hi : aTb M pc with
    | none => rw [aRun_none hi] at h; cases h
    | some i =>
      rcases aKd_cases i with hk | hk | hk | hk | hk
      · rw [aRun_0 hi hk] at h ⊢
        cases hs : aStep (99999, f, sc.2.2) i pc ls st A with
        | none => rw [hs] at h; cases h
        | some q =>
          rw [hs] at h
          rw [aStep_any hs]
          exact ih _ _ _ _ _ _ _ h
      · rw [aRun_1 hi hk] at h ⊢; exact h
      · rw [aRun_2 hi hk] at h ⊢; exact h
      · rw [aRun_3 hi hk] at h ⊢; exact h
      · cases d with
        | zero => rw [aRun_4z hi hk] at h; cases h
        | succ d1 =>
          rw [aRun_4 hi hk] at h ⊢
          unfold aCallB at h ⊢
          split at h
          · rename_i hc
            rw [if_pos hc]
            split at h
            · rename_i h0
              rw [if_pos h0]
              split at h
              · exact ih _ _ _ _ _ _ _ h
              · cases h
            · rename_i h0
              rw [if_neg h0]
              split at h
              · rename_i h1
                rw [if_pos h1]
                split at h
                · rename_i n9 dp a sp a0 r9
                  cases hq : aCopy A a0 sp a dp n9 with
                  | none => rw [hq] at h; cases h
                  | some A9 =>
                    rw [hq] at h
                    exact ih _ _ _ _ _ _ _ h
                · cases h
              · rename_i h1
                rw [if_neg h1]
                split at h
                · rename_i h2
                  rw [if_pos h2]
                  cases hq : aRun (99999, f, sc.2.2) n d1 i.2.1 0 (aEntry (aMx i.2.1) ((st.take i.2.2.1).reverse)) [] A with
                  | none => rw [hq] at h; cases h
                  | some q =>
                    rw [hq] at h
                    rw [ih _ _ _ _ _ _ _ hq]
                    obtain ⟨o9, A9⟩ := q
                    cases o9 with
                    | returned v => exact ih _ _ _ _ _ _ _ h
                    | threw x =>
                      dsimp only at h ⊢
                      cases hh : aHd M with
                      | nil => rw [hh] at h; exact h
                      | cons e1 es =>
                        rw [hh] at h
                        dsimp only at h ⊢
                        cases hc2 : aCl A9 (.ref x) with
                        | none => rw [hc2] at h; cases h
                        | some ci =>
                          rw [hc2] at h
                          dsimp only at h ⊢
                          cases hc3 : aHdl (e1 :: es) pc ci with
                          | none => rw [hc3] at h; cases h
                          | some hp =>
                            rw [hc3] at h
                            exact ih _ _ _ _ _ _ _ h
                · cases h
          · cases h
/-! the judgement -/
def aEx (sc : aSc) (d M pc : Nat) (ls : aL) (st : List Value) (A : aH) (o : Outcome) (A' : aH) : Prop := ∃ n, aRun sc n d M pc ls st A = some (o, A')
section EX
variable {sc : aSc} {d M pc : Nat} {ls : aL} {st : List Value} {A A' : aH} {o : Outcome}
theorem aEx.up {d' : Nat} (h : aEx sc d M pc ls st A o A') (hd : d ≤ d') : aEx sc d' M pc ls st A o A' := by
  obtain ⟨n, h⟩ := h
  exact ⟨n, aRun_up _ _ _ _ _ _ _ _ h n d' (Nat.le_refl _) hd⟩
/-- one instruction -/
theorem ex_step {i : aI} {pc' : Nat} {ls' : aL} {st' : List Value} {A1 : aH} (hi : aTb M pc = some i) (hk : aKd i = 0) (hs : aStep sc i pc ls st A = some (pc', ls', st', A1)) (k : aEx sc d M pc' ls' st' A1 o A') : aEx sc d M pc ls st A o A' := by
  obtain ⟨n, k⟩ := k
  refine ⟨n + 1, ?_⟩
  rw [aRun_0 hi hk]
  rw [hs]
  exact k
theorem ex_ret0 {i : aI} (hi : aTb M pc = some i) (hk : aKd i = 1) (hr : aRt M = none) : aEx sc d M pc ls [] A (.returned none) A := by
  refine ⟨1, ?_⟩
  rw [aRun_1 hi hk]
  unfold aEndB
  simp only [hk]
  rw [if_pos hr]
theorem ex_ret {i : aI} {v : Value} {ty : FieldType} (hi : aTb M pc = some i) (hk : aKd i = 2) (hr : aRt M = some ty) (hf : aFit ty v = true) : aEx sc d M pc ls [v] A (.returned (some v)) A := by
  refine ⟨1, ?_⟩
  rw [aRun_2 hi hk]
  unfold aEndB
  simp only [hk]
  rw [hr]
  try dsimp only
  rw [if_pos hf]
theorem ex_throw {i : aI} (hi : aTb M pc = some i) (hk : aKd i = 3) (hx : aHx M = []) (hc : (st.map (fun v => v.category)).sum ≤ 40) : aEx sc d M pc ls st A (.threw (1000 + A.length)) (A ++ [.inr (i.2.1, [])]) := by
  refine ⟨1, ?_⟩
  rw [aRun_3 hi hk]
  unfold aEndB
  simp only [hk]
  rw [if_pos ⟨hx, hc⟩]
theorem ex_oinit {i : aI} {b : Nat} {r : List Value} (hi : aTb M pc = some i) (hk : aKd i = 4) (h0 : i.2.1 = 0) (hc : ((Value.ref b :: r).map (fun v => v.category)).sum ≤ 40) (k : aEx sc (d + 1) M (pc + 3) ls r A o A') : aEx sc (d + 1) M pc ls (.ref b :: r) A o A' := by
  obtain ⟨n, k⟩ := k
  refine ⟨n + 1, ?_⟩
  rw [aRun_4 hi hk]
  unfold aCallB
  rw [if_pos hc, if_pos h0]
  exact k
/-- a call that returns -/
theorem ex_call {i : aI} {v : Option Value} {A1 : aH} {vs rest : List Value} (hi : aTb M pc = some i) (hk : aKd i = 4) (h0 : ¬ i.2.1 = 0) (h1 : ¬ i.2.1 = 1) (hc : (st.map (fun v => v.category)).sum ≤ 40) (hst : st = vs.reverse ++ rest) (hl : vs.length = i.2.2.1) (hg : aGo i.2.1 A vs = true)
    (hcall : aEx sc d i.2.1 0 (aEntry (aMx i.2.1) vs) [] A (.returned v) A1) (k : aEx sc (d + 1) M (pc + 3) ls (v.toList ++ rest) A1 o A') : aEx sc (d + 1) M pc ls st A o A' := by
  obtain ⟨n1, hcall⟩ := hcall
  obtain ⟨n2, k⟩ := k
  have e1 : (st.take i.2.2.1).reverse = vs := by rw [hst, ← hl, ← List.length_reverse, List.take_left, List.reverse_reverse]
  have e2 : st.drop i.2.2.1 = rest := by rw [hst, ← hl, ← List.length_reverse, List.drop_left]
  have e3 : i.2.2.1 ≤ st.length := by rw [hst, List.length_append, List.length_reverse]; omega
  refine ⟨n1 + n2 + 1, ?_⟩
  rw [aRun_4 hi hk]
  unfold aCallB
  rw [if_pos hc, if_neg h0, if_neg h1, e1, e2, if_pos ⟨e3, hg⟩, aRun_up _ _ _ _ _ _ _ _ hcall (n1 + n2) d (by omega) (Nat.le_refl _)]
  exact aRun_up _ _ _ _ _ _ _ _ k (n1 + n2) (d + 1) (by omega) (Nat.le_refl _)
/-- a call that throws, in a method without handlers -/
theorem ex_callT {i : aI} {x : Nat} {A1 : aH} {vs rest : List Value} (hi : aTb M pc = some i) (hk : aKd i = 4) (h0 : ¬ i.2.1 = 0) (h1 : ¬ i.2.1 = 1) (hc : (st.map (fun v => v.category)).sum ≤ 40) (hst : st = vs.reverse ++ rest) (hl : vs.length = i.2.2.1) (hg : aGo i.2.1 A vs = true)
    (hcall : aEx sc d i.2.1 0 (aEntry (aMx i.2.1) vs) [] A (.threw x) A1) (hh : aHd M = []) : aEx sc (d + 1) M pc ls st A (.threw x) A1 := by
  obtain ⟨n1, hcall⟩ := hcall
  have e1 : (st.take i.2.2.1).reverse = vs := by rw [hst, ← hl, ← List.length_reverse, List.take_left, List.reverse_reverse]
  have e3 : i.2.2.1 ≤ st.length := by rw [hst, List.length_append, List.length_reverse]; omega
  refine ⟨n1 + 1, ?_⟩
  rw [aRun_4 hi hk]
  unfold aCallB
  rw [if_pos hc, if_neg h0, if_neg h1, e1, if_pos ⟨e3, hg⟩, hcall]
  try dsimp only
  rw [hh]
/-- a call that throws, and is caught here -/
theorem ex_callC {i : aI} {x ci hp : Nat} {A1 : aH} {vs rest : List Value} {e1' : Nat × Nat × Nat × Nat} {es : List (Nat × Nat × Nat × Nat)} (hi : aTb M pc = some i) (hk : aKd i = 4) (h0 : ¬ i.2.1 = 0) (h1 : ¬ i.2.1 = 1) (hc : (st.map (fun v => v.category)).sum ≤ 40) (hst : st = vs.reverse ++ rest) (hl : vs.length = i.2.2.1) (hg : aGo i.2.1 A vs = true)
    (hcall : aEx sc d i.2.1 0 (aEntry (aMx i.2.1) vs) [] A (.threw x) A1) (hh : aHd M = e1' :: es) (hcl : aCl A1 (.ref x) = some ci) (hhd : aHdl (e1' :: es) pc ci = some hp) (k : aEx sc (d + 1) M hp ls [.ref x] A1 o A') : aEx sc (d + 1) M pc ls st A o A' := by
  obtain ⟨n1, hcall⟩ := hcall
  obtain ⟨n2, k⟩ := k
  have e1 : (st.take i.2.2.1).reverse = vs := by rw [hst, ← hl, ← List.length_reverse, List.take_left, List.reverse_reverse]
  have e3 : i.2.2.1 ≤ st.length := by rw [hst, List.length_append, List.length_reverse]; omega
  refine ⟨n1 + n2 + 1, ?_⟩
  rw [aRun_4 hi hk]
  unfold aCallB
  rw [if_pos hc, if_neg h0, if_neg h1, e1, if_pos ⟨e3, hg⟩, aRun_up _ _ _ _ _ _ _ _ hcall (n1 + n2) d (by omega) (Nat.le_refl _)]
  try dsimp only
  rw [hh]
  try dsimp only
  rw [hcl]
  try dsimp only
  rw [hhd]
  exact aRun_up _ _ _ _ _ _ _ _ k (n1 + n2) (d + 1) (by omega) (Nat.le_refl _)
end EX
