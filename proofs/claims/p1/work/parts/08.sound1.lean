/-! ONE STEP OF THE INTERPRETER IS ONE STEP OF THE MACHINE -/
def aSum (A : aH) : Nat := (A.map (aSl aNs)).sum
/-- the types of own arrays; an eighth so that the list is as long as aTyL -/
def aTyK : List FieldType := (aTyL.take 7) ++ [.int]
def tysL (dA : Nat → ClassId) : List (ClassId × FieldType) := aTyK.mapIdx (fun t ty => (dA t, ty))
def aWf (A : aH) : Prop := ∀ (k n : Nat) (f : Nat → Int32), A[k]? = some (.inl (1, n, .inl f)) → ∀ j, fits .char (.int (f j)) = true
def tH (D : va_G) (dA : Nat → ClassId) (ad : Nat → Nat) (sz : Nat) (A : aH) (H : Heap) : Prop := va_P D aCls (tW dA ad sz A) H ∧ aWf A
def gW (s : State) : Prop := ∀ w ∈ aWs, ∀ a : Array Value, w.before a s = true
/-- what an array that was there before holds -/
def xVal (ad : Nat → Nat) (sz : Nat) (x : vp_A) (j : Nat) : Value := match x.2 with
  | .inl f => .int (f j)
  | .inr (.inl f) => .long (f j)
  | .inr (.inr (.inr (.inr f))) => va_rf ((f j).map (tA ad sz))
  | _ => .null
def aSta (sc : aSc) : List (String × String × String × Value) := ("jdk/internal/util/Preconditions", "SIOOBE_FORMATTER", "Ljava/util/function/BiFunction;", sc.2.2) :: aSta0
/-- a static that holds a reference or null, with what the exceptions' words ask of it -/
def gZ1 (sz : Nat) (s : State) (H : Heap) (O f d : String) : Prop := ∃ (c : ClassId) (k : Class) (i : Nat) (fd : Field) (a : Nat) (cell : Cell) (v : Value), s.vm.findClass O = some c ∧ s.fieldFound? O f d = some (c, k, i, fd) ∧ fd.isStatic = true ∧ k.statics = some a ∧ H[a]? = some cell ∧ cell.vm.isStatics = true ∧ cell.cls = c ∧ fd.slot < cell.slots.size ∧ k.staticTypes[fd.slot]? = some fd.type ∧ a < sz ∧ cell.slots[fd.slot]? = some v ∧ (v = .null ∨ ∃ x, v = .ref x)
def gX (ad : Nat → Nat) (sz : Nat) (sc : aSc) (s : State) (H : Heap) : Prop :=
  (∀ (a ci k : Nat) (v : Value), xFd a ci k = some v → va_OF (fnT ci k).1 (fnT ci k).2.1 (fnT ci k).2.2.1 (tV ad sz v) (ad a) (fun q => sz ≤ q) s H) ∧
  (∀ (a : Nat) (q : Nat × vp_A), a < 1000 → aArr sc [] a = some q → ∃ ty, aTyL[q.1]? = some ty ∧ va_T ty (ad a) q.2.1 (xVal ad sz q.2) (fun q => sz ≤ q) s H) ∧
  (∀ a ci : Nat, xCl a = some ci → va_O (aCn ci) (ad a) (fun q => sz ≤ q) s H) ∧
  (∀ q ∈ aSta sc, va_Z q.1 q.2.1 q.2.2.1 (tV ad sz q.2.2.2) (fun q => sz ≤ q) s H) ∧
  (∀ q ∈ aStr, vk_R q.1 q.2.1 q.2.2.1 (ad q.2.2.2) s) ∧
  gZ1 sz s H "java/lang/Throwable" "UNASSIGNED_STACK" "[Ljava/lang/StackTraceElement;" ∧ gZ1 sz s H "java/lang/Throwable" "SUPPRESSED_SENTINEL" "Ljava/util/List;"
def gG (ad : Nat → Nat) (sz : Nat) (D : va_G) (dA : Nat → ClassId) (sc : aSc) (s : State) : Prop :=
  gW s ∧ va_K D aCls (tysL dA) s ∧ gX ad sz sc s s.heap
def aFr (M : Nat) (s : State) (m : MethodId) (meth : Method) (c : Code) : Prop :=
  c.code = aBy M ∧ c.maxLocals = aMx M ∧ meth.sig.returnType = aRt M ∧ meth.locks = false ∧ s.vm.findClass (aOw M) = some m.cls ∧ meth.name = (aNm M).name ∧
  c.exceptionTable.toList.map (fun h => (h.startPc, h.endPc, h.handlerPc, h.catchType)) = aHx M
theorem aSum_set {A : aH} {k : Nat} {x y : aE} (h : A[k]? = some x) (e : aSl aNs y = aSl aNs x) : aSum (A.set k y) = aSum A := by
  unfold aSum
  rw [List.map_set]
  congr 1
  apply List.ext_getElem?
  intro i
  rw [List.getElem?_set]
  split
  · rename_i hk
    subst hk
    split
    · simp [h, e]
    · rename_i hlt
      simp at hlt
      simp [List.getElem?_eq_none hlt] at h
  · rfl
theorem aSum_push {A : aH} {x : aE} : aSum (A ++ [x]) = aSum A + aSl aNs x := by simp [aSum]
theorem aLd_get {ls : aL} {i : Nat} {v : Value} (hv : aLd ls i = some v) : ls[i]? = some (some v) := by
  unfold aLd at hv
  split at hv
  · rename_i w hw
    cases hv
    exact hw
  · cases hv
theorem aFit_ok {ad : Nat → Nat} {sz : Nat} {ty : FieldType} {v : Value} (h : aFit ty v = true) : narrow ty (tV ad sz v) = tV ad sz v ∧ fits ty (tV ad sz v) = true := by
  simp only [aFit, Bool.and_eq_true, decide_eq_true_eq] at h
  cases v with
  | ref n => cases ty <;> first | exact ⟨rfl, h.2⟩ | exact absurd h.2 (by simp [fits])
  | _ => exact h
/-- where the words of a class's fields lie -/
def clH (ci : Nat) : List (Nat × Nat) := match ci with
  | 0 => [(2, 90), (2, 92), (2, 94), (2, 96), (2, 98), (2, 100), (2, 102), (2, 104)]
  | 1 => [(1, 230), (1, 232), (1, 234), (1, 236), (1, 238), (2, 0), (2, 2), (2, 4), (2, 6), (2, 8), (2, 10), (2, 12)]
  | 2 => [(2, 21), (2, 23), (2, 25), (2, 27), (2, 29), (2, 31)]
  | 3 => [(2, 42), (2, 44)]
  | 4 => [(2, 57), (2, 59), (2, 61), (2, 63)]
  | 5 => [(1, 47), (1, 49)]
  | 6 => [(1, 174), (1, 176), (1, 178), (1, 180), (1, 182), (1, 184), (1, 186), (1, 188), (1, 190)]
  | 7 => [(1, 129), (1, 131), (1, 133), (1, 135)]
  | 8 => [(1, 95), (1, 97), (1, 99), (1, 101), (1, 103), (1, 105), (1, 107), (1, 109), (1, 111), (1, 113), (1, 115)]
  | 9 => [(6, 15), (6, 17), (6, 19), (6, 21), (6, 23), (6, 25), (6, 27), (6, 29), (6, 31), (6, 33), (6, 35), (6, 37), (6, 39), (6, 41), (6, 43), (6, 45), (6, 47), (6, 49), (6, 51), (6, 53), (6, 55), (6, 57), (6, 59), (6, 61), (6, 63), (6, 65), (6, 67), (6, 69), (6, 71), (6, 73), (6, 75), (6, 77), (6, 79), (6, 81), (6, 83), (6, 85), (6, 87), (6, 89), (6, 91), (6, 93), (6, 95), (6, 97), (6, 99), (6, 101), (6, 103), (6, 105), (6, 107), (6, 109), (6, 111), (6, 113), (6, 115), (6, 117), (6, 119), (6, 121), (6, 123), (6, 125), (6, 127), (6, 129), (6, 131), (6, 133), (6, 135), (6, 137), (6, 139), (6, 141), (6, 143)]
  | 10 => []
  | 11 => []
  | 12 => []
  | 13 => []
  | _ => []
def clB (ci : Nat) : Bool := match aCls[ci]? with
  | some r => (List.range r.2.2).all (fun k => aHas ((clH ci).getD k (9, 0)) (u_lay r.1 (fnT ci) k) && decide (parseFieldDescriptor (fnT ci k).2.2.1 = some (aFt ci k)) && decide (defaultValue (aFt ci k) = vp_V (aDf ci) k) && (List.range r.2.2).all (fun b => k == b || !((fnT ci k).2.1 == (fnT ci b).2.1))) && r.1 == aCn ci && r.2.2 == aNf ci
  | none => true
set_option maxRecDepth 100000 in
theorem clB_all : ∀ ci, ci < 14 → clB ci = true := by decide +kernel
theorem clT {ci : Nat} {r : vw_C} (h : aCls[ci]? = some r) : ci < 14 ∧ r.2.1 = fnT ci := by
  match ci, h with
  | 0, h => cases h; exact ⟨by decide, rfl⟩
  | 1, h => cases h; exact ⟨by decide, rfl⟩
  | 2, h => cases h; exact ⟨by decide, rfl⟩
  | 3, h => cases h; exact ⟨by decide, rfl⟩
  | 4, h => cases h; exact ⟨by decide, rfl⟩
  | 5, h => cases h; exact ⟨by decide, rfl⟩
  | 6, h => cases h; exact ⟨by decide, rfl⟩
  | 7, h => cases h; exact ⟨by decide, rfl⟩
  | 8, h => cases h; exact ⟨by decide, rfl⟩
  | 9, h => cases h; exact ⟨by decide, rfl⟩
  | 10, h => cases h; exact ⟨by decide, rfl⟩
  | 11, h => cases h; exact ⟨by decide, rfl⟩
  | 12, h => cases h; exact ⟨by decide, rfl⟩
  | 13, h => cases h; exact ⟨by decide, rfl⟩
  | n + 14, h => exact absurd h (by simp [aCls])
theorem aClF {ci : Nat} {r : vw_C} (h : aCls[ci]? = some r) : r.2.1 = fnT ci ∧ (∀ k, k < r.2.2 → parseFieldDescriptor (fnT ci k).2.2.1 = some (aFt ci k)) ∧ (∀ a, a < r.2.2 → ∀ b, b < r.2.2 → a ≠ b → (fnT ci a).2.1 ≠ (fnT ci b).2.1) ∧ (∀ w ∈ u_ws r.1 (fnT ci) r.2.2, w ∈ aWs) ∧ (∀ j, j < r.2.2 → defaultValue (aFt ci j) = vp_V (aDf ci) j) ∧ r.1 = aCn ci ∧ r.2.2 = aNf ci := by
  obtain ⟨hlt, hT⟩ := clT h
  have hB := clB_all ci hlt
  unfold clB at hB
  rw [h] at hB
  simp only [Bool.and_eq_true, List.all_eq_true, List.mem_range, decide_eq_true_eq, Bool.or_eq_true, beq_iff_eq, Bool.not_eq_true', beq_eq_false_iff_ne] at hB
  obtain ⟨⟨h1, h2⟩, h0⟩ := hB
  refine ⟨hT, fun k hk => (h1 k hk).1.1.2, fun a ha b hb hab => ?_, fun w hw => ?_, fun j hj => (h1 j hj).1.2, h2, h0⟩
  · rcases (h1 a ha).2 b hb with h3 | h3
    · exact absurd h3 hab
    · exact h3
  · obtain ⟨k, hk, rfl⟩ := List.mem_map.mp hw
    exact aHas_ok (h1 k (List.mem_range.mp hk)).1.1.1
theorem tH.lb {D : va_G} {dA : Nat → ClassId} {ad : Nat → Nat} {sz : Nat} {A : aH} {H : Heap} (h : tH D dA ad sz A H) (h0 : sz ≤ H.size) : sz + A.length ≤ H.size := by
  rcases Nat.eq_zero_or_pos A.length with h1 | h1
  · omega
  · obtain ⟨x, hx⟩ : ∃ x, A[A.length - 1]? = some x := ⟨A[A.length - 1], List.getElem?_eq_getElem (by omega)⟩
    have := (h.1 _ _ (tW_get hx)).lt
    simp at this
    omega
section WSZ
variable {p : Program} {l : Launch} {e : Env} {R : Room} {s : State} {m : MethodId} {args : Array Value} {below : List Frame} {meth : Method} {c : Code} {H : Heap} {locs : List Loc} {cells slots : Nat} {Q : State → Prop}
/-- the heap is no larger than what has been made -/
theorem wSz {g : JFrame} (k : H.size ≤ s.heap.size + cells → W p l e R s m args below meth c H locs cells slots Q g) : W p l e R s m args below meth c H locs cells slots Q g :=
  fun T hT X => k (by have := X.heapSize; rw [hT] at this; exact this) T hT X
end WSZ
/-- the new cell's address -/
theorem tFresh {D : va_G} {dA : Nat → ClassId} {ad : Nat → Nat} {sz q : Nat} {A : aH} {H1 : Heap} {x : va_E} (hP : va_P D aCls (tW dA ad sz A ++ [(q, x)]) H1) (hD : va_D (fun q => sz ≤ q) (tW dA ad sz A ++ [(q, x)])) (hz : H1.size ≤ sz + A.length + 1) : q = sz + A.length := by
  have hl : (tW dA ad sz A ++ [(q, x)])[A.length]? = some (q, x) := by
    rw [List.getElem?_append_right (by simp [tW_len])]
    simp [tW_len]
  have h1 := (hP _ _ hl).lt
  have h2 := hD.2 _ _ hl
  simp at h1 h2
  by_cases h3 : q < sz + A.length
  · obtain ⟨y, hy⟩ : ∃ y, A[q - sz]? = some y := ⟨A[q - sz], List.getElem?_eq_getElem (by omega)⟩
    have h4 : (tW dA ad sz A ++ [(q, x)])[q - sz]? = some (sz + (q - sz), tE dA ad sz y) := by
      rw [List.getElem?_append_left (by rw [tW_len]; omega)]
      exact tW_get hy
    have h5 := hD.1 _ _ _ _ hl h4 (by simp; omega)
    omega
  · omega
