/-! STRETCHES as lists: sam says that two of them are equal -/
def stre (l : List Int32) (p n : Nat) : List Int32 := (l.drop p).take n
section STR
variable {l l2 : List Int32} {p q n : Nat}
theorem stre_len (h : p + n ≤ l.length) : (stre l p n).length = n := by
  unfold stre
  rw [List.length_take, List.length_drop]
  omega
theorem stre_at {i : Nat} (hi : i < n) : (stre l p n).getD i 0 = l.getD (p + i) 0 := by
  unfold stre
  rw [getD_take, if_pos hi, getD_drop]
theorem sam_all : ∀ (m j : Nat), sam l p l2 q j m = true ↔ ∀ i, i < m → l.getD (p + (j + i)) 0 = l2.getD (q + (j + i)) 0
  | 0, j => ⟨fun _ i hi => by omega, fun _ => rfl⟩
  | m + 1, j => by
    unfold sam
    rw [Bool.and_eq_true, decide_eq_true_eq, sam_all m (j + 1)]
    constructor
    · intro h i hi
      cases i with
      | zero => exact h.1
      | succ i =>
        have h2 := h.2 i (by omega)
        rw [show j + (i + 1) = j + 1 + i by omega]
        exact h2
    · intro h
      refine ⟨h 0 (by omega), fun i hi => ?_⟩
      have h2 := h (i + 1) (by omega)
      rw [show j + (i + 1) = j + 1 + i by omega] at h2
      exact h2
theorem list_getD_ext {a b : List Int32} (hl : a.length = b.length) (h : ∀ i, i < a.length → a.getD i 0 = b.getD i 0) : a = b := by
  apply List.ext_getElem hl
  intro i h1 h2
  have h3 := h i h1
  rw [getD_lt h1, getD_lt h2] at h3
  exact h3
theorem sam_iff (hp : p + n ≤ l.length) (hq : q + n ≤ l2.length) : sam l p l2 q 0 n = decide (stre l p n = stre l2 q n) := by
  rw [Bool.eq_iff_iff, sam_all n 0, decide_eq_true_eq]
  constructor
  · intro h
    refine list_getD_ext (by rw [stre_len hp, stre_len hq]) (fun i hi => ?_)
    rw [stre_len hp] at hi
    rw [stre_at hi, stre_at hi]
    have h2 := h i hi
    rw [Nat.zero_add] at h2
    exact h2
  · intro h i hi
    have h2 : (stre l p n).getD i 0 = (stre l2 q n).getD i 0 := by rw [h]
    rw [stre_at hi, stre_at hi] at h2
    rw [Nat.zero_add]
    exact h2
/-- equal lengths and equal stretches -/
theorem sam_eq {n2 : Nat} (hp : p + n ≤ l.length) (hq : q + n2 ≤ l2.length) : (decide (n = n2) && sam l p l2 q 0 n) = decide (stre l p n = stre l2 q n2) := by
  by_cases h : n = n2
  · subst h
    rw [decide_eq_true rfl, Bool.true_and, sam_iff hp hq]
  · rw [decide_eq_false h, Bool.false_and, decide_eq_false]
    intro hh
    have h2 := congrArg List.length hh
    rw [stre_len hp, stre_len hq] at h2
    exact h h2
end STR
/-! the name of a node of the draft stands in the words -/
theorem flW_app {a b : List Nd} : flW (a ++ b) = flW a ++ flW b := by simp [flW]
theorem flW_name {ns : List Nd} {rest : List Int32} {i : Nat} {x : Nd} (h : ns[i]? = some x) : stre (flW ns ++ rest) (flW (ns.take i)).length x.2.2.1.length = x.2.2.1 ∧ (flW (ns.take i)).length + x.2.2.1.length ≤ (flW ns).length := by
  have hi := (List.getElem?_eq_some_iff.mp h).1
  have hx := (List.getElem?_eq_some_iff.mp h).2
  have e1 : ns = ns.take i ++ x :: ns.drop (i + 1) := by
    rw [← hx, ← List.drop_eq_getElem_cons hi, List.take_append_drop]
  have e2 : flW ns = flW (ns.take i) ++ (x.2.2.1 ++ ((if x.1 = 3 then [] else x.2.2.2) ++ flW (ns.drop (i + 1)))) := by
    conv => lhs; rw [e1]
    rw [flW_app]
    simp [flW, wOf]
  constructor
  · unfold stre
    rw [e2, List.append_assoc, List.drop_left, List.append_assoc, List.take_left]
  · rw [e2, List.length_append, List.length_append]
    omega
