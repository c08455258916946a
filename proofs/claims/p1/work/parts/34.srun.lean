/-! the symbolic run of a script of three ints: token 2 is the first, of which the last four bits are cc; tokens 0 and 1 are the others -/
def sEqB (c : Jvm.ClassFile.Cond) (lo hi q : Int32) : Bool := match c with
  | .eq => decide (lo = hi ∨ q < lo ∨ hi < q)
  | .ne => decide (lo = hi ∨ q < lo ∨ hi < q)
  | _ => true
def sCmp (iv : Nat → Int32 × Int32) (c : Jvm.ClassFile.Cond) (k : Nat) (q : Int32) : Option Bool :=
  if aCmp c (iv k).1 q = aCmp c (iv k).2 q ∧ sEqB c (iv k).1 (iv k).2 q = true then some (aCmp c (iv k).1 q) else none
/-- a token, or its value where the interval is a point -/
def sPt (iv : Nat → Int32 × Int32) (k : UInt32) : Value := if (iv k.toNat).1 = (iv k.toNat).2 then .int (iv k.toNat).1 else .float k
def sTok (iv : Nat → Int32 × Int32) (cc : Int32) (i : aI) (pc : Nat) (ls : aL) (st : List Value) (A : aH) : Option aC := match i.1 with
  | .iload_n k => match aLd ls k.val with
    | some (.float t) => some (pc + 1, ls, .float t :: st, A)
    | _ => none
  | .iload k => match aLd ls k with
    | some (.float t) => some (pc + 2, ls, .float t :: st, A)
    | _ => none
  | .istore_n k => match st with
    | .float t :: r => if k.val < ls.length then some (pc + 1, aSt1 ls k.val (.float t), r, A) else none
    | _ => none
  | .istore k => match st with
    | .float t :: r => if k < ls.length then some (pc + 2, aSt1 ls k (.float t), r, A) else none
    | _ => none
  | .ifCond c _ => match st with
    | .float t :: r => match sCmp iv c t.toNat 0 with
      | some b => aBr b pc i.2.1 ls r A
      | none => none
    | _ => none
  | .if_icmp c _ => match st with
    | .int q :: .float t :: r => match sCmp iv c t.toNat q with
      | some b => aBr b pc i.2.1 ls r A
      | none => none
    | _ => none
  | .iaload => match st with
    | .int k :: .ref a :: r => if a = 0 ∧ k = 0 then some (pc + 1, ls, .float 2 :: r, A) else if a = 0 ∧ k = 1 then some (pc + 1, ls, sPt iv 0 :: r, A) else if a = 0 ∧ k = 2 then some (pc + 1, ls, sPt iv 1 :: r, A) else none
    | _ => none
  | .arraylength => match st with
    | .ref a :: r => if a = 0 then some (pc + 1, ls, .int 3 :: r, A) else none
    | _ => none
  | .iand => match st with
    | .int q :: .float t :: r => if q = 15 ∧ t = 2 then some (pc + 1, ls, .int cc :: r, A) else none
    | _ => none
  | _ => none
def sStep (v : Value) (iv : Nat → Int32 × Int32) (cc : Int32) (i : aI) (pc : Nat) (ls : aL) (st : List Value) (A : aH) : Option aC := match sTok iv cc i pc ls st A with
  | some c => some c
  | none => match aStep (99999, fun _ => 0, v) i pc ls st A with
    | some c => if sGd i.1 st c.2.2.1 = true then some c else none
    | none => none
def nfl (v : Option Value) : Bool := match v with
  | some (.float _) => false
  | _ => true
def sRun (v : Value) (iv : Nat → Int32 × Int32) (cc : Int32) : Nat → Nat → Nat → Nat → aL → List Value → aH → Option (Outcome × aH)
  | 0, _, _, _, _, _, _ => none
  | n + 1, d, M, pc, ls, st, A =>
    match aTb M pc with
    | none => none
    | some i =>
      if aKd i = 0 then match sStep v iv cc i pc ls st A with
        | some q => sRun v iv cc n d M q.1 q.2.1 q.2.2.1 q.2.2.2
        | none => none
      else if aKd i = 4 then match d with
        | 0 => none
        | d' + 1 =>
          if (st.map (fun v => v.category)).sum ≤ 40 then
            if i.2.1 = 0 then match st with
              | .ref _ :: r => sRun v iv cc n (d' + 1) M (pc + 3) ls r A
              | _ => none
            else if i.2.1 = 1 then none
            else if i.2.2.1 ≤ st.length ∧ aGo i.2.1 A ((st.take i.2.2.1).reverse) = true then
              match sRun v iv cc n d' i.2.1 0 (aEntry (aMx i.2.1) ((st.take i.2.2.1).reverse)) [] A with
              | some (.returned w, A') => if nfl w = true then sRun v iv cc n (d' + 1) M (pc + 3) ls (w.toList ++ st.drop i.2.2.1) A' else none
              | some (.threw a, A') => if aHd M = [] then some (.threw a, A') else match aCl A' (.ref a) with
                | some ci => match aHdl (aHd M) pc ci with
                  | some h => sRun v iv cc n (d' + 1) M h ls [.ref a] A'
                  | none => none
                | none => none
              | none => none
            else none
          else none
      else if nfl st.head? = true then aEndB M st A i else none
section SRN
variable {v : Value} {iv : Nat → Int32 × Int32} {cc : Int32} {f xs : Nat → Int32} {ls ls' : aL} {st st' : List Value} {A A1 : aH} {pc pc' : Nat} {i : aI}
theorem sCmp_ok {c : Jvm.ClassFile.Cond} {k : Nat} {q x : Int32} {b : Bool} (h : sCmp iv c k q = some b) (h1 : (iv k).1 ≤ x) (h2 : x ≤ (iv k).2) : aCmp c x q = b := by
  unfold sCmp at h
  split at h
  · rename_i hc
    cases h
    obtain ⟨g1, g2⟩ := hc
    revert g1 g2 h1 h2
    generalize (iv k).1 = lo
    generalize (iv k).2 = hi
    intro h1 h2 g1 g2
    rw [Int32.le_iff_toInt_le] at h1 h2
    cases c
    · simp only [aCmp] at g1 ⊢
      rw [Bool.eq_iff_iff, beq_iff_eq, beq_iff_eq, ← Int32.toInt_inj, ← Int32.toInt_inj]
      simp only [sEqB, decide_eq_true_eq, Int32.lt_iff_toInt_lt, ← Int32.toInt_inj] at g2
      omega
    · simp only [aCmp] at g1 ⊢
      rw [Bool.not_inj_iff, Bool.eq_iff_iff, beq_iff_eq, beq_iff_eq, ← Int32.toInt_inj, ← Int32.toInt_inj]
      simp only [sEqB, decide_eq_true_eq, Int32.lt_iff_toInt_lt, ← Int32.toInt_inj] at g2
      omega
    all_goals
      simp only [aCmp, decide_eq_decide, Int32.le_iff_toInt_le, Int32.lt_iff_toInt_lt] at g1 ⊢
      omega
  · cases h
theorem sPt_ok (hb : ∀ k, (iv k).1 ≤ f k ∧ f k ≤ (iv k).2) (k : UInt32) : sg f (sPt iv k) = .int (f k.toNat) := by
  unfold sPt
  split
  · rename_i he
    have h1 := hb k.toNat
    rw [← he, Int32.le_iff_toInt_le, Int32.le_iff_toInt_le] at h1
    have h2 : (iv k.toNat).1 = f k.toNat := Int32.toInt_inj.mp (by omega)
    show Value.int (iv k.toNat).1 = _
    rw [h2]
  · rfl
theorem sTok_ok (hb : ∀ k, (iv k).1 ≤ f k ∧ f k ≤ (iv k).2) (f0 : f 0 = xs 1) (f1 : f 1 = xs 2) (f2 : f 2 = xs 0) (hcc : xs 0 &&& 15 = cc) (h : sTok iv cc i pc ls st A = some (pc', ls', st', A1)) : aStep (3, xs, v) i pc (sgL f ls) (st.map (sg f)) A = some (pc', sgL f ls', st'.map (sg f), A1) := by
  obtain ⟨ins, x, y, w⟩ := i
  cases ins
  case iload_n k =>
    simp only [sTok] at h
    split at h
    · rename_i t e1
      simp only [Option.some.injEq, Prod.mk.injEq] at h
      obtain ⟨rfl, rfl, rfl, rfl⟩ := h
      simp only [aStep, aLdI, sgL_ld, e1, Option.map_some, sg, List.map_cons]
    · cases h
  case iload k =>
    simp only [sTok] at h
    split at h
    · rename_i t e1
      simp only [Option.some.injEq, Prod.mk.injEq] at h
      obtain ⟨rfl, rfl, rfl, rfl⟩ := h
      simp only [aStep, aLdI, sgL_ld, e1, Option.map_some, sg, List.map_cons]
    · cases h
  case istore_n k =>
    simp only [sTok] at h
    split at h
    · split at h
      · rename_i hk
        simp only [Option.some.injEq, Prod.mk.injEq] at h
        obtain ⟨rfl, rfl, rfl, rfl⟩ := h
        rw [← sgL_st1]
        simp only [aStep, aStI, List.map_cons, sg, sgL_len, hk, if_true]
      · cases h
    · cases h
  case istore k =>
    simp only [sTok] at h
    split at h
    · split at h
      · rename_i hk
        simp only [Option.some.injEq, Prod.mk.injEq] at h
        obtain ⟨rfl, rfl, rfl, rfl⟩ := h
        rw [← sgL_st1]
        simp only [aStep, aStI, List.map_cons, sg, sgL_len, hk, if_true]
      · cases h
    · cases h
  case ifCond c off =>
    simp only [sTok] at h
    split at h
    · rename_i t r
      split at h
      · rename_i b e1
        have e2 := sCmp_ok e1 (hb _).1 (hb _).2
        simp only [aStep, List.map_cons, sg, e2]
        unfold aBr at h ⊢
        split at h
        · rename_i hbt
          rw [if_pos hbt]
          simp only [Option.some.injEq, Prod.mk.injEq] at h ⊢
          obtain ⟨rfl, rfl, rfl, rfl⟩ := h
          exact ⟨rfl, rfl, rfl, rfl⟩
        · rename_i hbt
          rw [if_neg hbt]
          simp only [Option.some.injEq, Prod.mk.injEq] at h ⊢
          obtain ⟨rfl, rfl, rfl, rfl⟩ := h
          exact ⟨rfl, rfl, rfl, rfl⟩
      · cases h
    · cases h
  case if_icmp c off =>
    simp only [sTok] at h
    split at h
    · rename_i q t r
      split at h
      · rename_i b e1
        have e2 := sCmp_ok e1 (hb _).1 (hb _).2
        simp only [aStep, List.map_cons, sg, e2]
        unfold aBr at h ⊢
        split at h
        · rename_i hbt
          rw [if_pos hbt]
          simp only [Option.some.injEq, Prod.mk.injEq] at h ⊢
          obtain ⟨rfl, rfl, rfl, rfl⟩ := h
          exact ⟨rfl, rfl, rfl, rfl⟩
        · rename_i hbt
          rw [if_neg hbt]
          simp only [Option.some.injEq, Prod.mk.injEq] at h ⊢
          obtain ⟨rfl, rfl, rfl, rfl⟩ := h
          exact ⟨rfl, rfl, rfl, rfl⟩
      · cases h
    · cases h
  case iaload =>
    have r0 : ∀ k : Int32, ¬ (k < 0 ∨ 3 ≤ k.toNatClampNeg) → aRdI (3, xs, v) A 0 0 k = some (.int (xs k.toNatClampNeg)) := fun k hk => by
      simp only [aRdI, aArr, if_true, show ¬ (3 = 99999) by decide, if_false, true_and, hk, not_false_eq_true]
    simp only [sTok] at h
    split at h
    · rename_i k a r
      split at h
      · rename_i hc
        obtain ⟨rfl, rfl⟩ := hc
        simp only [Option.some.injEq, Prod.mk.injEq] at h
        obtain ⟨rfl, rfl, rfl, rfl⟩ := h
        simp only [aStep, aPush, List.map_cons, sg_int, sg_ref, r0 0 (by decide)]
        show some (pc + 1, sgL f ls, Value.int (xs 0) :: _, A) = some (pc + 1, sgL f ls, Value.int (f 2) :: _, A)
        rw [f2]
      · split at h
        · rename_i hc
          obtain ⟨rfl, rfl⟩ := hc
          simp only [Option.some.injEq, Prod.mk.injEq] at h
          obtain ⟨rfl, rfl, rfl, rfl⟩ := h
          simp only [aStep, aPush, List.map_cons, sg_int, sg_ref, r0 1 (by decide)]
          rw [sPt_ok hb 0]
          show some (pc + 1, sgL f ls, Value.int (xs 1) :: _, A) = some (pc + 1, sgL f ls, Value.int (f 0) :: _, A)
          rw [f0]
        · split at h
          · rename_i hc
            obtain ⟨rfl, rfl⟩ := hc
            simp only [Option.some.injEq, Prod.mk.injEq] at h
            obtain ⟨rfl, rfl, rfl, rfl⟩ := h
            simp only [aStep, aPush, List.map_cons, sg_int, sg_ref, r0 2 (by decide)]
            rw [sPt_ok hb 1]
            show some (pc + 1, sgL f ls, Value.int (xs 2) :: _, A) = some (pc + 1, sgL f ls, Value.int (f 1) :: _, A)
            rw [f1]
          · cases h
    · cases h
  case arraylength =>
    simp only [sTok] at h
    split at h
    · split at h
      · rename_i hc
        subst hc
        simp only [Option.some.injEq, Prod.mk.injEq] at h
        obtain ⟨rfl, rfl, rfl, rfl⟩ := h
        rfl
      · cases h
    · cases h
  case iand =>
    simp only [sTok] at h
    split at h
    · split at h
      · rename_i hc
        obtain ⟨rfl, rfl⟩ := hc
        simp only [Option.some.injEq, Prod.mk.injEq] at h
        obtain ⟨rfl, rfl, rfl, rfl⟩ := h
        have e1 : f 2 &&& 15 = cc := by rw [f2]; exact hcc
        show some (pc + 1, sgL f ls, Value.int (f 2 &&& 15) :: _, A) = some (pc + 1, sgL f ls, Value.int cc :: _, A)
        rw [e1]
      · cases h
    · cases h
  all_goals exact absurd h (by simp [sTok])
theorem sStep_ok (hb : ∀ k, (iv k).1 ≤ f k ∧ f k ≤ (iv k).2) (f0 : f 0 = xs 1) (f1 : f 1 = xs 2) (f2 : f 2 = xs 0) (hcc : xs 0 &&& 15 = cc) (h : sStep v iv cc i pc ls st A = some (pc', ls', st', A1)) : aStep (3, xs, v) i pc (sgL f ls) (st.map (sg f)) A = some (pc', sgL f ls', st'.map (sg f), A1) := by
  unfold sStep at h
  split at h
  · rename_i c e1
    cases h
    exact sTok_ok hb f0 f1 f2 hcc e1
  · split at h
    · rename_i c e1
      split at h
      · rename_i hg
        cases h
        exact aStep_sg (aStep_any (sc := (3, xs, v)) e1) hg
      · cases h
    · cases h
theorem aGo_sg {M : Nat} {vs : List Value} : aGo M A (vs.map (sg f)) = aGo M A vs := by
  unfold aGo
  rw [aArgs_sg, sgL_len]
  cases aIc M with
  | none => rfl
  | some ci =>
    cases vs with
    | nil => rfl
    | cons u us => cases u <;> rfl
theorem nfl_sg {w : Option Value} {rest : List Value} (h : nfl w = true) : (w.toList ++ rest).map (sg f) = w.toList ++ rest.map (sg f) := by
  cases w with
  | none => rfl
  | some u => cases u <;> first | rfl | (simp [nfl] at h)
theorem aEndB_sg {M : Nat} {r : Outcome × aH} (h : aEndB M st A i = some r) (hk : ¬ aKd i = 0) (hn : nfl st.head? = true) : aEndB M (st.map (sg f)) A i = some r := by
  unfold aEndB at h ⊢
  split at h
  · split at h
    · exact h
    · cases h
  · split at h
    · rename_i u
      have e1 : sg f u = u := by cases u <;> first | rfl | (simp [nfl] at hn)
      simp only [List.map_cons, List.map_nil, e1]
      exact h
    · cases h
  · rw [sg_cats]
    exact h
theorem sRun_ok (hb : ∀ k, (iv k).1 ≤ f k ∧ f k ≤ (iv k).2) (f0 : f 0 = xs 1) (f1 : f 1 = xs 2) (f2 : f 2 = xs 0) (hcc : xs 0 &&& 15 = cc) : ∀ (n d M pc : Nat) (ls : aL) (st : List Value) (A : aH) (r : Outcome × aH), sRun v iv cc n d M pc ls st A = some r → aRun (3, xs, v) n d M pc (sgL f ls) (st.map (sg f)) A = some r := by
  intro n
  induction n with
  | zero => intro d M pc ls st A r h; simp [sRun] at h
  | succ n ih =>
    intro d M pc ls st A r h
    rw [sRun.eq_def] at h
    dsimp only at h
    cases hi : aTb M pc with
    | none => rw [hi] at h; cases h
    | some i =>
      rw [hi] at h
      dsimp only at h
      split at h
      · rename_i hk
        rw [aRun_0 hi hk]
        cases hs : sStep v iv cc i pc ls st A with
        | none => rw [hs] at h; cases h
        | some q =>
          rw [hs] at h
          obtain ⟨q1, q2, q3, q4⟩ := q
          rw [sStep_ok hb f0 f1 f2 hcc hs]
          exact ih _ _ _ _ _ _ _ h
      · rename_i hk0
        split at h
        · rename_i hk
          cases d with
          | zero => cases h
          | succ d1 =>
            dsimp only at h
            rw [aRun_4 hi hk]
            unfold aCallB
            rw [sg_cats]
            split at h
            · rename_i hc
              rw [if_pos hc]
              split at h
              · rename_i h0
                rw [if_pos h0]
                split at h
                · exact ih _ _ _ _ _ _ _ h
                · cases h
              · rename_i h0
                rw [if_neg h0]
                split at h
                · cases h
                · rename_i h1
                  rw [if_neg h1]
                  split at h
                  · rename_i h2
                    rw [← List.map_take, ← List.map_drop, ← List.map_reverse, List.length_map, aGo_sg, if_pos h2, aEntry_sg]
                    cases hq : sRun v iv cc n d1 i.2.1 0 (aEntry (aMx i.2.1) ((st.take i.2.2.1).reverse)) [] A with
                    | none => rw [hq] at h; cases h
                    | some q =>
                      rw [hq] at h
                      have hq2 := ih _ _ _ _ _ _ _ hq
                      rw [List.map_nil] at hq2
                      rw [hq2]
                      obtain ⟨o9, A9⟩ := q
                      cases o9 with
                      | returned w =>
                        dsimp only at h ⊢
                        split at h
                        · rename_i hw
                          rw [← nfl_sg hw]
                          exact ih _ _ _ _ _ _ _ h
                        · cases h
                      | threw x =>
                        dsimp only at h ⊢
                        split at h
                        · rename_i hh
                          rw [hh]
                          exact h
                        · rename_i hh
                          cases hh2 : aHd M with
                          | nil => exact absurd hh2 hh
                          | cons e1 es =>
                            rw [hh2] at h
                            dsimp only at h ⊢
                            cases hc2 : aCl A9 (.ref x) with
                            | none => rw [hc2] at h; cases h
                            | some ci =>
                              rw [hc2] at h
                              dsimp only at h ⊢
                              cases hc3 : aHdl (e1 :: es) pc ci with
                              | none => rw [hc3] at h; cases h
                              | some hp =>
                                rw [hc3] at h
                                have h9 := ih _ _ _ _ _ _ _ h
                                exact h9
                  · cases h
            · cases h
        · rename_i hk4
          split at h
          · rename_i hn
            have h9 := aEndB_sg (f := f) h hk0 hn
            rcases aKd_cases i with hk | hk | hk | hk | hk
            · exact absurd hk hk0
            · rw [aRun_1 hi hk]; exact h9
            · rw [aRun_2 hi hk]; exact h9
            · rw [aRun_3 hi hk]; exact h9
            · exact absurd hk hk4
          · cases h
end SRN
