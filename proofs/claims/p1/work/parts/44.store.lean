/-! THE STORE: behind the constructors the heap has one shape; ints, longs and some references are what changes -/
/-- ints, longs, references that change; the exceptions made so far -/
abbrev St : Type := (Nat → Nat → Int32) × (Nat → Nat → Int64) × (Nat → Nat → Value) × aH
/-- references that change: of a Part and of a Step -/
def mutR (ci j : Nat) : Bool := (ci == 1 && (j == 1 || j == 2 || j == 3 || j == 6 || j == 7)) || (ci == 6 && (j == 0 || j == 4 || j == 5 || j == 6))
def slW (f : Nat → Int32) (g : Nat → Int64) (r : Nat → Value) (ci j : Nat) (v : Value) : Value := match v with
  | .int _ => .int (f j)
  | .long _ => .long (g j)
  | v => if mutR ci j = true then r j else v
def ceW (f : Nat → Int32) (g : Nat → Int64) (r : Nat → Value) (e : aE) : aE := match e with
  | .inl (t, n, .inl _) => .inl (t, n, .inl f)
  | .inl (t, n, .inr (.inl _)) => .inl (t, n, .inr (.inl g))
  | .inl q => .inl q
  | .inr q => .inr (q.1, q.2.mapIdx (fun j v => slW f g r q.1 j v))
def mkH (σ : St) : aH := E3.mapIdx (fun k e => ceW (σ.1 (1000 + k)) (σ.2.1 (1000 + k)) (σ.2.2.1 (1000 + k)) e)
def e3 (a : Nat) : Option aE := if a < 1000 then none else E3[a - 1000]?
set_option maxRecDepth 100000 in
theorem E3_len : E3.length = 362 := by decide +kernel
theorem mkH_len (σ : St) : (mkH σ).length = 362 := by
  unfold mkH
  rw [List.length_mapIdx, E3_len]
section STO
variable {σ σ' : St} {X : aH} {a b ci j t n : Nat} {e : aE}
theorem e3_lt (h : e3 a = some e) : 1000 ≤ a ∧ a - 1000 < 362 ∧ E3[a - 1000]? = some e := by
  unfold e3 at h
  split at h
  · cases h
  · have h2 := (List.getElem?_eq_some_iff.mp h).1
    rw [E3_len] at h2
    exact ⟨by omega, h2, h⟩
theorem mkH_get (h : e3 a = some e) : (mkH σ ++ X)[a - 1000]? = some (ceW (σ.1 a) (σ.2.1 a) (σ.2.2.1 a) e) := by
  obtain ⟨h1, h2, h3⟩ := e3_lt h
  rw [List.getElem?_append_left (by rw [mkH_len]; exact h2)]
  unfold mkH
  rw [List.getElem?_mapIdx, h3]
  show some (ceW (σ.1 (1000 + (a - 1000))) (σ.2.1 (1000 + (a - 1000))) (σ.2.2.1 (1000 + (a - 1000))) e) = _
  rw [show 1000 + (a - 1000) = a by omega]
theorem mkH_set {e' : aE} (h : e3 a = some e) (h1 : ceW (σ'.1 a) (σ'.2.1 a) (σ'.2.2.1 a) e = e') (h2 : ∀ b, b ≠ a → σ'.1 b = σ.1 b ∧ σ'.2.1 b = σ.2.1 b ∧ σ'.2.2.1 b = σ.2.2.1 b) : (mkH σ ++ X).set (a - 1000) e' = mkH σ' ++ X := by
  obtain ⟨g1, g2, g3⟩ := e3_lt h
  rw [List.set_append_left _ _ (by rw [mkH_len]; exact g2)]
  refine congrArg (fun l => l ++ X) ?_
  apply List.ext_getElem?
  intro i
  rw [List.getElem?_set]
  by_cases hi : a - 1000 = i
  · subst hi
    rw [if_pos rfl, if_pos (by rw [mkH_len]; exact g2)]
    have k := mkH_get (σ := σ') (X := []) h
    rw [List.append_nil] at k
    rw [k, h1]
  · rw [if_neg hi]
    unfold mkH
    rw [List.getElem?_mapIdx, List.getElem?_mapIdx]
    obtain ⟨k1, k2, k3⟩ := h2 (1000 + i) (by omega)
    rw [k1, k2, k3]
/-! what the shape says: closed, by kernel -/
def isO (a ci : Nat) : Bool := match e3 a with
  | some (.inr q) => q.1 == ci
  | _ => false
def isI (a ci j : Nat) : Bool := match e3 a with
  | some (.inr q) => q.1 == ci && decide (j < aNf ci) && (match q.2[j]? with | some (.int _) => true | _ => false)
  | _ => false
def isJ (a ci j : Nat) : Bool := match e3 a with
  | some (.inr q) => q.1 == ci && decide (j < aNf ci) && (match q.2[j]? with | some (.long _) => true | _ => false)
  | _ => false
/-- a reference that never changes -/
def isC (a ci j b : Nat) : Bool := match e3 a with
  | some (.inr q) => q.1 == ci && decide (j < aNf ci) && !mutR ci j && (match q.2[j]? with | some (.ref c) => c == b | _ => false)
  | _ => false
/-- a reference that changes -/
def isM (a ci j : Nat) : Bool := match e3 a with
  | some (.inr q) => q.1 == ci && decide (j < aNf ci) && mutR ci j && (match q.2[j]? with | some .null => true | _ => false)
  | _ => false
/-- an array of ints, chars or booleans -/
def isA (a t n : Nat) : Bool := match e3 a with
  | some (.inl (t', n', .inl _)) => t' == t && n' == n && decide (t < 8)
  | _ => false
def isL (a n : Nat) : Bool := match e3 a with
  | some (.inl (t', n', .inr (.inl _))) => t' == 3 && n' == n
  | _ => false
theorem isO_ok (h : isO a ci = true) : ∃ vs, e3 a = some (.inr (ci, vs)) := by
  unfold isO at h
  split at h
  · rename_i q hq
    rw [beq_iff_eq] at h
    exact ⟨q.2, by rw [hq, ← h]⟩
  · cases h
theorem isI_ok (h : isI a ci j = true) : ∃ vs z, e3 a = some (.inr (ci, vs)) ∧ j < aNf ci ∧ vs[j]? = some (.int z) := by
  unfold isI at h
  split at h
  · rename_i q hq
    simp only [Bool.and_eq_true, beq_iff_eq, decide_eq_true_eq] at h
    obtain ⟨⟨h1, h2⟩, h3⟩ := h
    split at h3
    · rename_i z hz
      exact ⟨q.2, z, by rw [hq, ← h1], h2, hz⟩
    · cases h3
  · cases h
theorem isJ_ok (h : isJ a ci j = true) : ∃ vs z, e3 a = some (.inr (ci, vs)) ∧ j < aNf ci ∧ vs[j]? = some (.long z) := by
  unfold isJ at h
  split at h
  · rename_i q hq
    simp only [Bool.and_eq_true, beq_iff_eq, decide_eq_true_eq] at h
    obtain ⟨⟨h1, h2⟩, h3⟩ := h
    split at h3
    · rename_i z hz
      exact ⟨q.2, z, by rw [hq, ← h1], h2, hz⟩
    · cases h3
  · cases h
theorem isC_ok (h : isC a ci j b = true) : ∃ vs, e3 a = some (.inr (ci, vs)) ∧ j < aNf ci ∧ mutR ci j = false ∧ vs[j]? = some (.ref b) := by
  unfold isC at h
  split at h
  · rename_i q hq
    simp only [Bool.and_eq_true, beq_iff_eq, decide_eq_true_eq, Bool.not_eq_true'] at h
    obtain ⟨⟨⟨h1, h2⟩, h4⟩, h3⟩ := h
    split at h3
    · rename_i z hz
      rw [beq_iff_eq] at h3
      exact ⟨q.2, by rw [hq, ← h1], h2, h4, by rw [hz, h3]⟩
    · cases h3
  · cases h
theorem isM_ok (h : isM a ci j = true) : ∃ vs, e3 a = some (.inr (ci, vs)) ∧ j < aNf ci ∧ mutR ci j = true ∧ vs[j]? = some .null := by
  unfold isM at h
  split at h
  · rename_i q hq
    simp only [Bool.and_eq_true, beq_iff_eq, decide_eq_true_eq] at h
    obtain ⟨⟨⟨h1, h2⟩, h4⟩, h3⟩ := h
    split at h3
    · rename_i hz
      exact ⟨q.2, by rw [hq, ← h1], h2, h4, hz⟩
    · cases h3
  · cases h
theorem isA_ok (h : isA a t n = true) : ∃ f, e3 a = some (.inl (t, n, .inl f)) ∧ t < 8 := by
  unfold isA at h
  split at h
  · rename_i t' n' f hq
    simp only [Bool.and_eq_true, beq_iff_eq, decide_eq_true_eq] at h
    obtain ⟨⟨h1, h2⟩, h3⟩ := h
    exact ⟨f, by rw [hq, h1, h2], h3⟩
  · cases h
theorem isL_ok (h : isL a n = true) : ∃ f, e3 a = some (.inl (3, n, .inr (.inl f))) := by
  unfold isL at h
  split at h
  · rename_i t' n' f hq
    simp only [Bool.and_eq_true, beq_iff_eq] at h
    exact ⟨f, by rw [hq, h.1, h.2]⟩
  · cases h
def laN (a : Nat) : Nat := match e3 a with
  | some (.inl q) => q.2.1
  | _ => 0
def rfF (a k : Nat) : Nat := match e3 a with
  | some (.inr q) => (match q.2[k]? with | some (.ref b) => b | _ => 0)
  | _ => 0
/-- what holds of every object of a class -/
def shO (ci : Nat) (P : Nat → Bool) : Bool := (List.range 362).all (fun k => !isO (1000 + k) ci || P (1000 + k))
theorem shO_ok {P : Nat → Bool} (h : shO ci P = true) (ha : isO a ci = true) : P a = true := by
  obtain ⟨vs, h1⟩ := isO_ok ha
  obtain ⟨g1, g2, -⟩ := e3_lt h1
  have k := List.all_eq_true.mp h (a - 1000) (List.mem_range.mpr g2)
  rw [show 1000 + (a - 1000) = a by omega, ha] at k
  simpa using k
/-! changes of the store -/
def uF (σ : St) (a : Nat) (f : Nat → Int32) : St := (fun b => if b = a then f else σ.1 b, σ.2)
def uI (σ : St) (a j : Nat) (x : Int32) : St := uF σ a (upd (σ.1 a) j x)
def uJ (σ : St) (a j : Nat) (x : Int64) : St := (σ.1, fun b => if b = a then vp_updL (σ.2.1 a) j x else σ.2.1 b, σ.2.2)
def uR (σ : St) (a j : Nat) (x : Value) : St := (σ.1, σ.2.1, fun b => if b = a then va_up (σ.2.2.1 a) j x else σ.2.2.1 b, σ.2.2.2)
/-- one exception more -/
def uX (σ : St) (ci : Nat) : St := (σ.1, σ.2.1, σ.2.2.1, σ.2.2.2 ++ [.inr (ci, [])])
theorem uF_oth {f : Nat → Int32} : ∀ b, b ≠ a → (uF σ a f).1 b = σ.1 b ∧ (uF σ a f).2.1 b = σ.2.1 b ∧ (uF σ a f).2.2.1 b = σ.2.2.1 b := fun b hb => ⟨by simp [uF, hb], rfl, rfl⟩
theorem uJ_oth {x : Int64} : ∀ b, b ≠ a → (uJ σ a j x).1 b = σ.1 b ∧ (uJ σ a j x).2.1 b = σ.2.1 b ∧ (uJ σ a j x).2.2.1 b = σ.2.2.1 b := fun b hb => ⟨rfl, by simp [uJ, hb], rfl⟩
theorem uR_oth {x : Value} : ∀ b, b ≠ a → (uR σ a j x).1 b = σ.1 b ∧ (uR σ a j x).2.1 b = σ.2.1 b ∧ (uR σ a j x).2.2.1 b = σ.2.2.1 b := fun b hb => ⟨rfl, rfl, by simp [uR, hb]⟩
theorem uF_self {f : Nat → Int32} : (uF σ a f).1 a = f := by simp [uF]
theorem uJ_self {x : Int64} : (uJ σ a j x).2.1 a = vp_updL (σ.2.1 a) j x := by simp [uJ]
theorem uR_self {x : Value} : (uR σ a j x).2.2.1 a = va_up (σ.2.2.1 a) j x := by simp [uR]
/-! fields -/
theorem fld_I (h : isI a ci j = true) : aFld (mkH σ ++ X) a ci j = some (.int (σ.1 a j)) := by
  obtain ⟨vs, z, h1, h2, h3⟩ := isI_ok h
  obtain ⟨g1, -, -⟩ := e3_lt h1
  unfold aFld
  rw [if_neg (by omega), mkH_get h1]
  simp only [ceW, h2, and_self, if_true, List.getElem?_mapIdx, h3, Option.map_some, slW]
theorem fld_J (h : isJ a ci j = true) : aFld (mkH σ ++ X) a ci j = some (.long (σ.2.1 a j)) := by
  obtain ⟨vs, z, h1, h2, h3⟩ := isJ_ok h
  obtain ⟨g1, -, -⟩ := e3_lt h1
  unfold aFld
  rw [if_neg (by omega), mkH_get h1]
  simp only [ceW, h2, and_self, if_true, List.getElem?_mapIdx, h3, Option.map_some, slW]
theorem fld_C (h : isC a ci j b = true) : aFld (mkH σ ++ X) a ci j = some (.ref b) := by
  obtain ⟨vs, h1, h2, h4, h3⟩ := isC_ok h
  obtain ⟨g1, -, -⟩ := e3_lt h1
  unfold aFld
  rw [if_neg (by omega), mkH_get h1]
  simp [ceW, h2, List.getElem?_mapIdx, h3, slW, h4]
theorem fld_M (h : isM a ci j = true) : aFld (mkH σ ++ X) a ci j = some (σ.2.2.1 a j) := by
  obtain ⟨vs, h1, h2, h4, h3⟩ := isM_ok h
  obtain ⟨g1, -, -⟩ := e3_lt h1
  unfold aFld
  rw [if_neg (by omega), mkH_get h1]
  simp [ceW, h2, List.getElem?_mapIdx, h3, slW, h4]
theorem put_I {x : Int32} (h : isI a ci j = true) (hf : aFit (aFt ci j) (.int x) = true) : aPut (mkH σ ++ X) a ci j (.int x) = some (mkH (uI σ a j x) ++ X) := by
  obtain ⟨vs, z, h1, h2, h3⟩ := isI_ok h
  obtain ⟨g1, -, -⟩ := e3_lt h1
  have h4 := (List.getElem?_eq_some_iff.mp h3).1
  unfold aPut
  rw [if_neg (by omega), mkH_get h1]
  simp only [ceW, List.length_mapIdx]
  rw [if_pos ⟨trivial, h2, h4, hf⟩]
  refine congrArg some (mkH_set h1 ?_ uF_oth)
  unfold uI
  rw [uF_self]
  simp only [ceW]
  refine congrArg (fun l => (Sum.inr (ci, l) : aE)) ?_
  apply List.ext_getElem?
  intro i
  rw [List.getElem?_set, List.length_mapIdx, List.getElem?_mapIdx, List.getElem?_mapIdx]
  by_cases hi : j = i
  · subst hi
    rw [if_pos rfl, if_pos h4, h3]
    simp [slW, upd]
  · rw [if_neg hi]
    cases hv : vs[i]? with
    | none => rfl
    | some v =>
      have e1 : upd (σ.1 a) j x i = σ.1 a i := by simp [upd, Ne.symm hi]
      cases v <;> simp [slW, e1, uF]
theorem put_J {x : Int64} (h : isJ a ci j = true) (hf : aFit (aFt ci j) (.long x) = true) : aPut (mkH σ ++ X) a ci j (.long x) = some (mkH (uJ σ a j x) ++ X) := by
  obtain ⟨vs, z, h1, h2, h3⟩ := isJ_ok h
  obtain ⟨g1, -, -⟩ := e3_lt h1
  have h4 := (List.getElem?_eq_some_iff.mp h3).1
  unfold aPut
  rw [if_neg (by omega), mkH_get h1]
  simp only [ceW, List.length_mapIdx]
  rw [if_pos ⟨trivial, h2, h4, hf⟩]
  refine congrArg some (mkH_set h1 ?_ uJ_oth)
  rw [uJ_self]
  simp only [ceW]
  refine congrArg (fun l => (Sum.inr (ci, l) : aE)) ?_
  apply List.ext_getElem?
  intro i
  rw [List.getElem?_set, List.length_mapIdx, List.getElem?_mapIdx, List.getElem?_mapIdx]
  by_cases hi : j = i
  · subst hi
    rw [if_pos rfl, if_pos h4, h3]
    simp [slW, vp_updL]
  · rw [if_neg hi]
    cases hv : vs[i]? with
    | none => rfl
    | some v =>
      have e1 : vp_updL (σ.2.1 a) j x i = σ.2.1 a i := by simp [vp_updL, Ne.symm hi]
      cases v <;> simp [slW, e1, uJ]
theorem put_M {x : Value} (h : isM a ci j = true) (hf : aFit (aFt ci j) x = true) : aPut (mkH σ ++ X) a ci j x = some (mkH (uR σ a j x) ++ X) := by
  obtain ⟨vs, h1, h2, h5, h3⟩ := isM_ok h
  obtain ⟨g1, -, -⟩ := e3_lt h1
  have h4 := (List.getElem?_eq_some_iff.mp h3).1
  unfold aPut
  rw [if_neg (by omega), mkH_get h1]
  simp only [ceW, List.length_mapIdx]
  rw [if_pos ⟨trivial, h2, h4, hf⟩]
  refine congrArg some (mkH_set h1 ?_ uR_oth)
  rw [uR_self]
  simp only [ceW]
  refine congrArg (fun l => (Sum.inr (ci, l) : aE)) ?_
  apply List.ext_getElem?
  intro i
  rw [List.getElem?_set, List.length_mapIdx, List.getElem?_mapIdx, List.getElem?_mapIdx]
  by_cases hi : j = i
  · subst hi
    rw [if_pos rfl, if_pos h4, h3]
    simp [slW, va_up, h5]
  · rw [if_neg hi]
    cases hv : vs[i]? with
    | none => rfl
    | some v =>
      have e1 : va_up (σ.2.2.1 a) j x i = σ.2.2.1 a i := by simp [va_up, Ne.symm hi]
      cases v <;> simp [slW, e1, uR]
/-! arrays -/
abbrev inB (i : Int32) (n : Nat) : Prop := ¬ (i < 0 ∨ n ≤ i.toNatClampNeg)
variable {sc : aSc}
theorem arr_A (h : isA a t n = true) : aArr sc (mkH σ ++ X) a = some (t, n, .inl (σ.1 a)) := by
  obtain ⟨f, h1, h2⟩ := isA_ok h
  obtain ⟨g1, -, -⟩ := e3_lt h1
  unfold aArr
  rw [if_neg (by omega), if_neg (by omega), mkH_get h1]
  rfl
theorem rd_A {i : Int32} (h : isA a t n = true) (hb : inB i n) : aRdI sc (mkH σ ++ X) a t i = some (.int (σ.1 a i.toNatClampNeg)) := by
  unfold aRdI
  rw [arr_A h]
  dsimp only
  rw [if_pos ⟨rfl, hb⟩]
theorem wr_A {i x : Int32} (h : isA a t n = true) (hb : inB i n) : aWrI (mkH σ ++ X) a t i x = some (mkH (uI σ a i.toNatClampNeg x) ++ X) := by
  obtain ⟨f, h1, h2⟩ := isA_ok h
  obtain ⟨g1, -, -⟩ := e3_lt h1
  unfold aWrI
  rw [if_neg (by omega), mkH_get h1]
  simp only [ceW]
  rw [if_pos ⟨trivial, hb⟩]
  refine congrArg some (mkH_set h1 ?_ uF_oth)
  unfold uI
  rw [uF_self]
  rfl
theorem arr_L (h : isL a n = true) : aArr sc (mkH σ ++ X) a = some (3, n, .inr (.inl (σ.2.1 a))) := by
  obtain ⟨f, h1⟩ := isL_ok h
  obtain ⟨g1, -, -⟩ := e3_lt h1
  unfold aArr
  rw [if_neg (by omega), if_neg (by omega), mkH_get h1]
  rfl
theorem rd_L {i : Int32} (h : isL a n = true) (hb : inB i n) : aRdL sc (mkH σ ++ X) a i = some (.long (σ.2.1 a i.toNatClampNeg)) := by
  unfold aRdL
  rw [arr_L h]
  dsimp only
  rw [if_pos ⟨rfl, hb⟩]
theorem wr_L {i : Int32} {x : Int64} (h : isL a n = true) (hb : inB i n) : aWrL (mkH σ ++ X) a i x = some (mkH (uJ σ a i.toNatClampNeg x) ++ X) := by
  obtain ⟨f, h1⟩ := isL_ok h
  obtain ⟨g1, -, -⟩ := e3_lt h1
  unfold aWrL
  rw [if_neg (by omega), mkH_get h1]
  simp only [ceW]
  rw [if_pos ⟨trivial, hb⟩]
  refine congrArg some (mkH_set h1 ?_ uJ_oth)
  rw [uJ_self]
  rfl
theorem cp_A {b m : Nat} {sp dp z : Int32} (h0 : isA b t m = true) (h : isA a t n = true) (ht : t = 0 ∨ t = 1) (hb : ¬ (sp < 0 ∨ dp < 0 ∨ z < 0) ∧ sp.toNatClampNeg + z.toNatClampNeg ≤ m ∧ dp.toNatClampNeg + z.toNatClampNeg ≤ n) : aCopy (mkH σ ++ X) b sp a dp z = some (mkH (uF σ a (va_cpy (σ.1 b) (σ.1 a) sp.toNatClampNeg dp.toNatClampNeg z.toNatClampNeg)) ++ X) := by
  obtain ⟨f, h1, h2⟩ := isA_ok h
  obtain ⟨g1, -, -⟩ := e3_lt h1
  obtain ⟨f0, k1, k2⟩ := isA_ok h0
  obtain ⟨l1, -, -⟩ := e3_lt k1
  obtain ⟨b1, b2, b3⟩ := hb
  unfold aCopy
  rw [if_neg (by intro hh; rcases hh with hh | hh | hh | hh | hh <;> first | omega | exact b1 (Or.inl hh) | exact b1 (Or.inr (Or.inl hh)) | exact b1 (Or.inr (Or.inr hh))), mkH_get k1]
  simp only [ceW]
  rw [mkH_get h1]
  simp only [ceW]
  rw [if_pos ⟨trivial, ht, b2, b3⟩]
  refine congrArg some (mkH_set h1 ?_ uF_oth)
  rw [uF_self]
  rfl
end STO
