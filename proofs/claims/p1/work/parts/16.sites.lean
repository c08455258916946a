def atSt : List Cond := [.laysStatic Bundle.tN "UNASSIGNED_STACK" Bundle.steD, .laysStatic Bundle.tN "SUPPRESSED_SENTINEL" Bundle.listD, .isRef (.static Bundle.tN "UNASSIGNED_STACK" Bundle.steD), .isRef (.static Bundle.tN "SUPPRESSED_SENTINEL" Bundle.listD)]
def atR (X : String) : List Cond := [.instantiable X 6, .castable X X, .selects X Bundle.tFill0 Bundle.tFill0, .selects X Bundle.tFill Bundle.tFill,
   .lays X Bundle.tN "cause" "Ljava/lang/Throwable;", .lays X Bundle.tN "stackTrace" Bundle.steD, .lays X Bundle.tN "suppressedExceptions" Bundle.listD, .lays X Bundle.tN "detailMessage" "Ljava/lang/String;",
   .isRef (.static Bundle.tN "UNASSIGNED_STACK" Bundle.steD), .isRef (.static Bundle.tN "SUPPRESSED_SENTINEL" Bundle.listD),
   .fieldLink Bundle.tN 198 Bundle.tN "backtrace" "Ljava/lang/Object;", .lays Bundle.tN Bundle.tN "backtrace" "Ljava/lang/Object;", .lays X Bundle.tN "backtrace" "Ljava/lang/Object;"]
def atF (X : String) : List Cond := (Bundle.throwableAtoms ++ Bundle.throwableSAtoms ++ Bundle.chainSAtoms X aThrNames) ++ atR X
theorem at_of {own X : String} {ic : Nat} {w : Cond} (h : w ∈ Bundle.ownAtoms own ic X aThrNames) : w = .methodLink own ic (Bundle.initS X) ∨ w ∈ atF X := by
  rcases List.mem_append.mp h with h | h
  · exact Or.inr (List.mem_append_left _ h)
  · rcases List.mem_cons.mp h with h | h
    · exact Or.inl h
    · exact Or.inr (List.mem_append_right _ h)
def atB (X : String) (hs : List (Nat × Nat)) : Bool := decide ((atF X).length = hs.length) && ((atF X).zip hs).all (fun q => (q.2.1 == 99 && atSt.contains q.1) || aHas q.2 q.1)
set_option maxRecDepth 100000 in
theorem atB_10 : atB "java/lang/IllegalArgumentException" [(1, 15), (3, 120), (3, 129), (3, 134), (3, 137), (3, 139), (3, 121), (3, 122), (1, 33), (1, 34), (3, 123), (3, 128), (3, 135), (3, 155), (3, 110), (3, 156), (3, 112), (3, 157), (3, 114), (3, 124), (99, 0), (3, 126), (99, 0), (3, 116), (3, 151), (3, 152), (3, 154), (3, 116), (3, 187), (3, 188), (3, 189), (3, 145), (3, 102), (3, 145), (3, 146), (3, 147), (3, 148), (3, 104), (3, 148), (3, 149), (3, 150), (3, 151), (3, 106), (3, 177), (3, 178), (3, 179), (3, 131), (3, 180), (3, 181), (3, 182), (3, 183), (99, 0), (99, 0), (3, 119), (3, 118), (3, 184)] = true := by decide +kernel
set_option maxRecDepth 100000 in
theorem atB_11 : atB "java/lang/IllegalStateException" [(1, 15), (3, 120), (3, 129), (3, 134), (3, 137), (3, 139), (3, 121), (3, 122), (1, 33), (1, 34), (3, 123), (3, 128), (3, 135), (3, 155), (3, 110), (3, 156), (3, 112), (3, 157), (3, 114), (3, 124), (99, 0), (3, 126), (99, 0), (3, 116), (3, 151), (3, 152), (3, 154), (3, 116), (3, 208), (3, 209), (3, 210), (3, 145), (3, 102), (3, 145), (3, 146), (3, 147), (3, 148), (3, 104), (3, 148), (3, 149), (3, 150), (3, 151), (3, 106), (3, 198), (3, 199), (3, 200), (3, 132), (3, 201), (3, 202), (3, 203), (3, 204), (99, 0), (99, 0), (3, 119), (3, 118), (3, 205)] = true := by decide +kernel
set_option maxRecDepth 100000 in
theorem atB_12 : atB "java/lang/IndexOutOfBoundsException" [(1, 15), (3, 120), (3, 129), (3, 134), (3, 137), (3, 139), (3, 121), (3, 122), (1, 33), (1, 34), (3, 123), (3, 128), (3, 135), (3, 155), (3, 110), (3, 156), (3, 112), (3, 157), (3, 114), (3, 124), (99, 0), (3, 126), (99, 0), (3, 116), (3, 151), (3, 152), (3, 154), (3, 116), (4, 97), (4, 98), (4, 99), (3, 145), (3, 102), (3, 145), (3, 146), (3, 147), (3, 148), (3, 104), (3, 148), (3, 149), (3, 150), (3, 151), (3, 106), (4, 87), (4, 88), (4, 89), (3, 133), (4, 90), (4, 91), (4, 92), (4, 93), (99, 0), (99, 0), (3, 119), (3, 118), (4, 94)] = true := by decide +kernel
set_option maxRecDepth 100000 in
theorem atB_13 : atB "java/lang/UnsupportedOperationException" [(1, 15), (3, 120), (3, 129), (3, 134), (3, 137), (3, 139), (3, 121), (3, 122), (1, 33), (1, 34), (3, 123), (3, 128), (3, 135), (3, 155), (3, 110), (3, 156), (3, 112), (3, 157), (3, 114), (3, 124), (99, 0), (3, 126), (99, 0), (3, 116), (3, 151), (3, 152), (3, 154), (3, 116), (3, 142), (3, 143), (3, 144), (3, 145), (3, 102), (3, 145), (3, 146), (3, 147), (3, 148), (3, 104), (3, 148), (3, 149), (3, 150), (3, 151), (3, 106), (3, 99), (3, 100), (3, 107), (3, 108), (3, 109), (3, 111), (3, 113), (3, 115), (99, 0), (99, 0), (3, 119), (3, 118), (3, 117)] = true := by decide +kernel
theorem zip_in {α β : Type} {a : α} : ∀ {l : List α} {r : List β}, l.length = r.length → a ∈ l → ∃ b, (a, b) ∈ l.zip r
  | [], _, _, h => by cases h
  | x :: l, [], e, _ => by cases e
  | x :: l, y :: r, e, h => by
    rcases List.mem_cons.mp h with rfl | h
    · exact ⟨y, List.mem_cons_self⟩
    · obtain ⟨b, hb⟩ := zip_in (Nat.succ.inj e) h
      exact ⟨b, List.mem_cons_of_mem _ hb⟩
theorem atB_ok {X : String} {hs : List (Nat × Nat)} (h : atB X hs = true) {w : Cond} (hw : w ∈ atF X) : w ∈ atSt ∨ w ∈ aWs := by
  simp only [atB, Bool.and_eq_true, decide_eq_true_eq, List.all_eq_true] at h
  obtain ⟨b, hb⟩ := zip_in h.1 hw
  have h2 := h.2 _ hb
  rw [Bool.or_eq_true] at h2
  rcases h2 with h3 | h3
  · rw [Bool.and_eq_true] at h3
    exact Or.inl (by simpa using h3.2)
  · exact Or.inr (aHas_ok h3)
def isExc (ci : Nat) : Prop := ci = 10 ∨ ci = 11 ∨ ci = 12 ∨ ci = 13
theorem at_all {ci : Nat} (h : isExc ci) {w : Cond} (hw : w ∈ atF (aCn ci)) : w ∈ atSt ∨ w ∈ aWs := by
  rcases h with rfl | rfl | rfl | rfl
  · exact atB_ok atB_10 hw
  · exact atB_ok atB_11 hw
  · exact atB_ok atB_12 hw
  · exact atB_ok atB_13 hw
/-- throws: method, place, the text's constant, the constructor's, the text's number, the word's place -/
def aThr : List (Nat × Nat × Nat × Nat × Nat × Nat × Nat) := [(24, 9, 106, 108, 32, 4, 96), (24, 84, 124, 126, 33, 4, 109), (27, 11, 137, 108, 34, 4, 96), (27, 50, 145, 126, 35, 4, 109), (28, 11, 137, 108, 34, 4, 96), (28, 47, 153, 126, 36, 4, 109), (28, 89, 167, 169, 37, 4, 152), (28, 113, 124, 126, 33, 4, 109), (30, 11, 137, 108, 34, 4, 96), (32, 36, 193, 108, 54, 4, 96), (41, 35, 50, 52, 53, 4, 178), (43, 9, 237, 52, 38, 4, 178), (46, 9, 231, 52, 39, 4, 178), (48, 110, 147, 52, 41, 4, 178), (49, 16, 149, 52, 42, 4, 178), (50, 8, 241, 52, 43, 4, 178), (51, 48, 169, 52, 47, 4, 178), (52, 5, 229, 52, 48, 4, 178), (108, 48, 85, 87, 12, 3, 141), (110, 15, 187, 131, 14, 3, 186), (111, 14, 185, 103, 16, 3, 207), (112, 22, 101, 103, 18, 3, 207), (113, 16, 183, 131, 17, 3, 186), (115, 22, 146, 131, 19, 3, 186), (115, 65, 148, 131, 20, 3, 186), (117, 22, 166, 131, 21, 3, 186), (117, 197, 178, 131, 27, 3, 186), (119, 14, 159, 131, 29, 3, 186), (120, 42, 129, 131, 30, 3, 186), (121, 14, 189, 131, 31, 3, 186)]
def thB (t : Nat × Nat × Nat × Nat × Nat × Nat × Nat) (i : aI) : Bool :=
  decide (decode (aBy t.1) (t.2.1 + 3) = .ok (.dup, 1)) && decide (decode (aBy t.1) (t.2.1 + 4) = .ok (.ldc t.2.2.1, 2)) && decide (decode (aBy t.1) (t.2.1 + 6) = .ok (.invokespecial t.2.2.2.1, 3)) && decide (decode (aBy t.1) (t.2.1 + 9) = .ok (.athrow, 1)) &&
  (match aStr[t.2.2.2.2.1]? with | some q => q.1 == aOw t.1 && q.2.1 == t.2.2.1 && decide (q.2.2.2 < 1000) | none => false) && aHas (t.2.2.2.2.2.1, t.2.2.2.2.2.2) (.methodLink (aOw t.1) t.2.2.2.1 (Bundle.initS (aCn i.2.1))) && (i.2.1 == 10 || i.2.1 == 11 || i.2.1 == 12 || i.2.1 == 13)
def tkB (M : Nat) : Bool := (aProg.getD M []).all (fun q => !(aKd q.2 == 3) || aThr.any (fun t => t.1 == M && t.2.1 == q.1 && thB t q.2))
/-- a place that throws a new exception of class ci -/
def aSite (M pc ci : Nat) : Prop := isExc ci ∧ ∃ (zs ic a : Nat) (tx : String), decode (aBy M) (pc + 3) = .ok (.dup, 1) ∧ decode (aBy M) (pc + 4) = .ok (.ldc zs, 2) ∧ decode (aBy M) (pc + 6) = .ok (.invokespecial ic, 3) ∧ decode (aBy M) (pc + 9) = .ok (.athrow, 1) ∧ (aOw M, zs, tx, a) ∈ aStr ∧ a < 1000 ∧ Cond.methodLink (aOw M) ic (Bundle.initS (aCn ci)) ∈ aWs
theorem tkB_ok {M pc : Nat} {i : aI} (h : tkB M = true) (hi : aTb M pc = some i) (hk : aKd i = 3) : aSite M pc i.2.1 := by
  unfold aTb at hi
  obtain ⟨q, hq, rfl⟩ := Option.map_eq_some_iff.mp hi
  have hm := List.mem_of_find?_eq_some hq
  have hp := List.find?_some hq
  rw [beq_iff_eq] at hp
  subst hp
  have h1 := List.all_eq_true.mp h q hm
  rw [hk] at h1
  simp only [beq_self_eq_true, Bool.not_true, Bool.false_or, List.any_eq_true, Bool.and_eq_true, beq_iff_eq] at h1
  obtain ⟨⟨M', pc', zs, ic, si, k, j⟩, -, ⟨h2, h3⟩, h4⟩ := h1
  dsimp only at h2 h3
  subst h2; subst h3
  simp only [thB, Bool.and_eq_true, decide_eq_true_eq, Bool.or_eq_true, beq_iff_eq] at h4
  obtain ⟨⟨⟨⟨⟨⟨d1, d2⟩, d3⟩, d4⟩, d5⟩, d6⟩, d7⟩ := h4
  split at d5
  · rename_i w hw
    simp only [Bool.and_eq_true, beq_iff_eq, decide_eq_true_eq] at d5
    obtain ⟨w1, w2, w3, w4⟩ := w
    obtain ⟨⟨e1, e2⟩, e3⟩ := d5
    dsimp only at e1 e2 e3
    subst e1; subst e2
    refine ⟨?_, w2, ic, w4, w3, d1, d2, d3, d4, List.mem_of_getElem? hw, e3, aHas_ok d6⟩
    unfold isExc
    omega
  · cases d5
