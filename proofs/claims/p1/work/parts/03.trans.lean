/-! FROM OWN CELLS TO THE MACHINE'S HEAP -/
def tA (ad : Nat → Nat) (sz n : Nat) : Nat := if n < 1000 then ad n else sz + (n - 1000)
def tV (ad : Nat → Nat) (sz : Nat) (v : Value) : Value := match v with
  | .ref n => .ref (tA ad sz n)
  | v => v
def tX (ad : Nat → Nat) (sz : Nat) (x : vp_A) : vp_A := (x.1, match x.2 with
  | .inr (.inr (.inr (.inr f))) => .inr (.inr (.inr (.inr (fun j => (f j).map (tA ad sz)))))
  | y => y)
def tE (dA : Nat → ClassId) (ad : Nat → Nat) (sz : Nat) (x : aE) : va_E := match x with
  | .inl q => .inl (dA q.1, tX ad sz q.2)
  | .inr q => .inr (q.1, q.2.map (tV ad sz))
def tW (dA : Nat → ClassId) (ad : Nat → Nat) (sz : Nat) (A : aH) : va_W := A.mapIdx (fun k x => (sz + k, tE dA ad sz x))
theorem tW_get {dA : Nat → ClassId} {ad : Nat → Nat} {sz : Nat} {A : aH} {k : Nat} {x : aE} (h : A[k]? = some x) : (tW dA ad sz A)[k]? = some (sz + k, tE dA ad sz x) := by
  simp [tW, h]
theorem tW_len {dA : Nat → ClassId} {ad : Nat → Nat} {sz : Nat} {A : aH} : (tW dA ad sz A).length = A.length := by simp [tW]
theorem tW_inv {dA : Nat → ClassId} {ad : Nat → Nat} {sz : Nat} {A : aH} {k : Nat} {q : Nat × va_E} (h : (tW dA ad sz A)[k]? = some q) : ∃ x, A[k]? = some x ∧ q = (sz + k, tE dA ad sz x) := by
  simp only [tW, List.getElem?_mapIdx, Option.map_eq_some_iff] at h
  obtain ⟨x, h1, h2⟩ := h
  exact ⟨x, h1, h2.symm⟩
theorem tW_set {dA : Nat → ClassId} {ad : Nat → Nat} {sz : Nat} {A : aH} {k : Nat} {x : aE} : tW dA ad sz (A.set k x) = (tW dA ad sz A).set k (sz + k, tE dA ad sz x) := by
  apply List.ext_getElem?
  intro i
  simp only [tW, List.getElem?_mapIdx, List.getElem?_set, List.length_mapIdx]
  by_cases h : k = i
  · subst h
    by_cases h2 : k < A.length <;> simp [h2]
  · simp [h]
theorem tW_push {dA : Nat → ClassId} {ad : Nat → Nat} {sz : Nat} {A : aH} {x : aE} : tW dA ad sz (A ++ [x]) = tW dA ad sz A ++ [(sz + A.length, tE dA ad sz x)] := by
  simp [tW, List.mapIdx_append]
theorem tW_D {dA : Nat → ClassId} {ad : Nat → Nat} {sz : Nat} {A : aH} : va_D (fun q => sz ≤ q) (tW dA ad sz A) := by
  refine ⟨fun i j x y hi hj hxy => ?_, fun k q hk => ?_⟩
  · obtain ⟨_, -, rfl⟩ := tW_inv hi
    obtain ⟨_, -, rfl⟩ := tW_inv hj
    simp at hxy
    exact hxy
  · obtain ⟨_, -, rfl⟩ := tW_inv hk
    exact Nat.le_add_right _ _
theorem tV_cat {ad : Nat → Nat} {sz : Nat} (v : Value) : (tV ad sz v).category = v.category := by cases v <;> rfl
/-! LOCALS -/
def lvL (ad : Nat → Nat) (sz : Nat) (ls : aL) : List (Nat × Value) := (List.range ls.length).filterMap (fun i => match ls[i]? with
  | some (some v) => some (i, tV ad sz v)
  | _ => none)
theorem lvL_mem {ad : Nat → Nat} {sz : Nat} {ls : aL} {i : Nat} {w : Value} : (i, w) ∈ lvL ad sz ls ↔ ∃ v, ls[i]? = some (some v) ∧ w = tV ad sz v := by
  simp only [lvL, List.mem_filterMap, List.mem_range]
  constructor
  · rintro ⟨j, hj, h⟩
    split at h
    · rename_i v hv
      simp only [Option.some.injEq, Prod.mk.injEq] at h
      obtain ⟨rfl, rfl⟩ := h
      exact ⟨v, hv, rfl⟩
    · cases h
  · rintro ⟨v, hv, rfl⟩
    refine ⟨i, (List.getElem?_eq_some_iff.mp hv).1, ?_⟩
    rw [hv]
def lR (ad : Nat → Nat) (sz : Nat) (lsA : Array Slot) (nL : Nat) (ls : aL) : Prop := ls.length = nL ∧ lv_has lsA nL (lvL ad sz ls)
theorem lR.at {ad : Nat → Nat} {sz : Nat} {lsA : Array Slot} {nL : Nat} {ls : aL} (h : lR ad sz lsA nL ls) {i : Nat} {v : Value} (hv : aLd ls i = some v) : lsA[i]? = some (.val (tV ad sz v)) := by
  have h1 : ls[i]? = some (some v) := by
    unfold aLd at hv
    split at hv
    · rename_i w hw
      cases hv
      exact hw
    · cases hv
  exact h.2.2.2 (i, tV ad sz v) (lvL_mem.mpr ⟨v, h1, rfl⟩)
theorem lR.size {ad : Nat → Nat} {sz : Nat} {lsA : Array Slot} {nL : Nat} {ls : aL} (h : lR ad sz lsA nL ls) : lsA.size = nL := h.2.1
theorem aKill_len (ls : aL) (i : Nat) : (aKill ls i).length = ls.length := by
  unfold aKill
  split
  · rfl
  · split <;> simp
/-- what is left behind a store at i was there, and is neither at i nor a long that ends at i -/
theorem aKill_get {ls : aL} {i j : Nat} {v : Value} (h : (aKill ls i)[j]? = some (some v)) : ls[j]? = some (some v) ∧ ¬ (j + 1 = i ∧ v.category = 2) := by
  unfold aKill at h
  split at h
  · exact ⟨h, fun q => by omega⟩
  · rename_i k
    split at h
    · rename_i x hx
      rw [List.getElem?_set] at h
      split at h
      · split at h <;> simp at h
      · rename_i hne
        exact ⟨h, fun q => hne (by omega)⟩
    · rename_i x hx
      rw [List.getElem?_set] at h
      split at h
      · split at h <;> simp at h
      · rename_i hne
        exact ⟨h, fun q => hne (by omega)⟩
    · rename_i hn1 hn2
      refine ⟨h, fun q => ?_⟩
      obtain ⟨q1, q2⟩ := q
      have hjk : j = k := by omega
      subst hjk
      cases v with
      | long x => exact hn1 x h
      | double x => exact hn2 x h
      | _ => simp [Value.category] at q2
theorem lR.st1 {ad : Nat → Nat} {sz : Nat} {lsA lsA' : Array Slot} {nL : Nat} {ls : aL} (h : lR ad sz lsA nL ls) {i : Nat} {v : Value}
    (h' : lv_has lsA' nL ((i, tV ad sz v) :: (lvL ad sz ls).filter (fun q => !(q.1 == i) && !(q.1 + 1 == i && q.2.category == 2)))) : lR ad sz lsA' nL (aSt1 ls i v) := by
  refine ⟨by simp [aSt1, aKill_len, h.1], h'.1, h'.2.1, fun q hq => ?_⟩
  obtain ⟨j, w⟩ := q
  obtain ⟨u, hu, rfl⟩ := lvL_mem.mp hq
  refine h'.2.2 (j, tV ad sz u) ?_
  unfold aSt1 at hu
  rw [List.getElem?_set] at hu
  split at hu
  · rename_i e
    subst e
    split at hu
    · cases hu
      exact List.mem_cons_self
    · cases hu
  · rename_i hne
    obtain ⟨h1, h2⟩ := aKill_get hu
    refine List.mem_cons_of_mem _ (List.mem_filter.mpr ⟨lvL_mem.mpr ⟨u, h1, rfl⟩, ?_⟩)
    have e1 : (j == i) = false := by simpa using fun e => hne e.symm
    have e2 : (j + 1 == i && (tV ad sz u).category == 2) = false := by
      rw [tV_cat]
      simpa using h2
    simp [e1, e2]
theorem lR.st2 {ad : Nat → Nat} {sz : Nat} {lsA lsA' : Array Slot} {nL : Nat} {ls : aL} (h : lR ad sz lsA nL ls) {i : Nat} {v : Value}
    (h' : lv_has lsA' nL ((i, tV ad sz v) :: (lvL ad sz ls).filter (fun q => !(q.1 == i) && (!(q.1 == i + 1) && !(q.1 + 1 == i && q.2.category == 2))))) : lR ad sz lsA' nL (aSt2 ls i v) := by
  refine ⟨by simp [aSt2, aKill_len, h.1], h'.1, h'.2.1, fun q hq => ?_⟩
  obtain ⟨j, w⟩ := q
  obtain ⟨u, hu, rfl⟩ := lvL_mem.mp hq
  refine h'.2.2 (j, tV ad sz u) ?_
  unfold aSt2 at hu
  rw [List.getElem?_set] at hu
  split at hu
  · split at hu <;> simp at hu
  · rename_i hne0
    rw [List.getElem?_set] at hu
    split at hu
    · rename_i e
      subst e
      split at hu
      · cases hu
        exact List.mem_cons_self
      · cases hu
    · rename_i hne
      obtain ⟨h1, h2⟩ := aKill_get hu
      refine List.mem_cons_of_mem _ (List.mem_filter.mpr ⟨lvL_mem.mpr ⟨u, h1, rfl⟩, ?_⟩)
      have e1 : (j == i) = false := by simpa using fun e => hne e.symm
      have e0 : (j == i + 1) = false := by simpa using fun e => hne0 e.symm
      have e2 : (j + 1 == i && (tV ad sz u).category == 2) = false := by
        rw [tV_cat]
        simpa using h2
      simp [e1, e0, e2]
