/-! SYMBOLIC RUNS: an int that is not known is a token (.float k), of which an interval is known -/
def sg (f : Nat → Int32) (v : Value) : Value := match v with
  | .float k => .int (f k.toNat)
  | v => v
def sgL (f : Nat → Int32) (ls : aL) : aL := ls.map (Option.map (sg f))
section SG
variable {f : Nat → Int32} {ls : aL} {st : List Value} {A : aH} {pc i : Nat}
theorem sg_cat (v : Value) : (sg f v).category = v.category := by cases v <;> rfl
theorem sg_cats (st : List Value) : ((st.map (sg f)).map (fun v => v.category)) = st.map (fun v => v.category) := by
  rw [List.map_map]
  apply List.map_congr_left
  intro v _
  exact sg_cat v
theorem sgL_len : (sgL f ls).length = ls.length := by simp [sgL]
theorem sgL_get : (sgL f ls)[i]? = (ls[i]?).map (Option.map (sg f)) := by simp [sgL]
theorem sgL_ld : aLd (sgL f ls) i = (aLd ls i).map (sg f) := by
  unfold aLd
  rw [sgL_get]
  cases ls[i]? with
  | none => rfl
  | some o => cases o <;> rfl
theorem sgL_set {v : Option Value} : sgL f (ls.set i v) = (sgL f ls).set i (v.map (sg f)) := by simp [sgL, List.map_set]
theorem sgL_kill : aKill (sgL f ls) i = sgL f (aKill ls i) := by
  unfold aKill
  cases i with
  | zero => rfl
  | succ j =>
    dsimp only
    rw [sgL_get]
    cases h : ls[j]? with
    | none => rfl
    | some o =>
      cases o with
      | none => rfl
      | some v => cases v <;> first | rfl | (simp only [Option.map_some, sg]; rw [sgL_set]; rfl)
theorem sgL_st1 {v : Value} : aSt1 (sgL f ls) i (sg f v) = sgL f (aSt1 ls i v) := by
  unfold aSt1
  rw [sgL_kill, sgL_set]
  rfl
theorem sgL_st2 {v : Value} : aSt2 (sgL f ls) i (sg f v) = sgL f (aSt2 ls i v) := by
  unfold aSt2
  rw [sgL_kill, sgL_set, sgL_set]
  rfl
theorem aArgs_sg : ∀ vs : List Value, aArgs (vs.map (sg f)) = sgL f (aArgs vs)
  | [] => rfl
  | v :: vs => by
    have ih := aArgs_sg vs
    unfold sgL at ih ⊢
    cases v <;> simp [aArgs, sg, ih]
theorem aEntry_sg {n : Nat} {vs : List Value} : aEntry n (vs.map (sg f)) = sgL f (aEntry n vs) := by
  unfold aEntry
  rw [aArgs_sg, sgL_len]
  simp [sgL]
theorem sg_int {x : Int32} : sg f (.int x) = .int x := rfl
theorem sg_long {x : Int64} : sg f (.long x) = .long x := rfl
theorem sg_ref {x : Nat} : sg f (.ref x) = .ref x := rfl
theorem sg_null : sg f .null = .null := rfl
/-- a value that fits a type other than float is no token -/
theorem sg_fit {ty : FieldType} {v : Value} (h : aFit ty v = true) (hty : ty ≠ .float) : sg f v = v := by
  cases v with
  | float k =>
    simp only [aFit, Bool.and_eq_true] at h
    cases ty <;> first | exact absurd rfl hty | exact absurd h.2 (by simp [fits])
  | _ => rfl
end SG
