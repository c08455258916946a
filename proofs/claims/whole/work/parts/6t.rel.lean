/-! THE NODES THAT BOTH READERS HAVE MADE are the same -/
def wr (c : Nat) : Int32 := if c = 10 then 1 else if c = 13 then 2 else 3
theorem wr_e {c : Nat} (h : c = 10 ∨ c = 11) : (if c = 10 then (1 : Int32) else 3) = wr c := by
  rcases h with h | h <;> rw [h] <;> rfl
def toNd (b cs : List Int32) (base : Nat) (x : Md) : Nd := (x.1, x.2.1 + base, stre b x.2.2.1 x.2.2.2.1, stre cs x.2.2.2.2.1 x.2.2.2.2.2)
def mIn (b cs : List Int32) (x : Md) : Prop := x.2.2.1 + x.2.2.2.1 ≤ b.length ∧ x.2.2.2.2.1 + x.2.2.2.2.2 ≤ cs.length
def rel (b : List Int32) (base : Nat) (pre ns : List Nd) (ds : List Md) (cs : List Int32) : Prop := ns = pre ++ ds.map (toNd b cs base) ∧ ∀ x, x ∈ ds → mIn b cs x
theorem stre_app {cs es : List Int32} {p n : Nat} (h : p + n ≤ cs.length) : stre (cs ++ es) p n = stre cs p n := by
  unfold stre
  rw [List.drop_append_of_le_length (by omega), List.take_append_of_le_length (by rw [List.length_drop]; omega)]
theorem stre_new {cs es : List Int32} : stre (cs ++ es) cs.length es.length = es := by
  unfold stre
  rw [List.drop_left, List.take_length]
theorem stre_0 {l : List Int32} {p : Nat} : stre l p 0 = [] := by
  unfold stre
  rw [List.take_zero]
theorem drop_pre {α : Type} {l : List α} {n : Nat} : ∀ pre : List α, (pre ++ l).drop (pre.length + n) = l.drop n
  | [] => by rw [List.nil_append, List.length_nil, Nat.zero_add]
  | a :: t => by
    rw [List.length_cons, show t.length + 1 + n = (t.length + n) + 1 by omega, List.cons_append, List.drop_succ_cons]
    exact drop_pre t
section REL
variable {b cs es : List Int32} {base : Nat} {pre ns : List Nd} {ds : List Md}
theorem rel.snoc {x : Md} (h : rel b base pre ns ds cs) (hx : mIn b (cs ++ es) x) : rel b base pre (ns ++ [toNd b (cs ++ es) base x]) (ds ++ [x]) (cs ++ es) := by
  refine ⟨?_, fun y hy => ?_⟩
  · have e : ds.map (toNd b cs base) = ds.map (toNd b (cs ++ es) base) := by
      apply List.map_congr_left
      intro y hy
      unfold toNd
      rw [stre_app (h.2 y hy).2]
    rw [h.1, List.map_append, List.append_assoc, e]
    rfl
  · rw [List.mem_append] at hy
    rcases hy with hy | hy
    · exact ⟨(h.2 y hy).1, by have := (h.2 y hy).2; rw [List.length_append]; omega⟩
    · rw [List.mem_singleton] at hy
      rw [hy]
      exact hx
theorem rel.len (h : rel b base pre ns ds cs) : ns.length = pre.length + ds.length := by
  rw [h.1, List.length_append, List.length_map]
theorem rel.dp {el : Nat} {nm : List Int32} (h : rel b base pre ns ds cs) : dup (ns.drop (pre.length + el)) nm = dupM b (ds.drop el) nm := by
  rw [h.1, drop_pre, ← List.map_drop]
  unfold dup dupM
  rw [List.any_map]
  rfl
end REL
/-! what is known of a reading that went well -/
section SOK
variable {b : List Int32} {R k p R2 k2 : Nat} {prev : List Nd}
theorem rdT_ok {stop : Int32 → Bool} (hO : okB b) : ∀ (n p q : Nat) (es : List Int32), rdT b stop n p = some (q, es) → p + es.length ≤ q ∧ (p ≤ b.length → q ≤ b.length) ∧ stop (b.getD q 0) = true ∧ (stop (b.getD p 0) = false → p < q) := by
  intro n
  induction n with
  | zero =>
    intro p q es h
    unfold rdT at h
    cases h
  | succ n ih =>
    intro p q es h
    unfold rdT at h
    by_cases hs : stop (b.getD p 0) = true
    · rw [if_pos hs] at h
      injection h with h
      injection h with h1 h2
      rw [← h1, ← h2]
      exact ⟨Nat.le_refl _, id, hs, fun hh => by rw [hs] at hh; cases hh⟩
    · rw [if_neg hs] at h
      cases hr : rdCh b p with
      | none =>
        rw [hr] at h
        cases h
      | some x =>
        rw [hr] at h
        dsimp only at h
        cases hq : rdT b stop n x.2 with
        | none =>
          rw [hq] at h
          cases h
        | some y =>
          rw [hq] at h
          dsimp only at h
          injection h with h
          injection h with h1 h2
          have k1 := rdCh_ok (c := x.1) (q := x.2) hO hr
          have k2 := ih x.2 y.1 y.2 hq
          rw [← h1, ← h2, List.length_cons]
          exact ⟨by omega, fun _ => k2.2.1 k1.2.1, k2.2.2.1, fun _ => by omega⟩
theorem sAt_cg {p : Nat} (h : k < R ↔ k2 < R2) : sAt b R k p prev = sAt b R2 k2 p prev := by
  have e : (k < R) = (k2 < R2) := propext h
  unfold sAt
  simp only [e]
theorem sTx_cg {p : Nat} (h : k < R ↔ k2 < R2) : sTx b R k p = sTx b R2 k2 p := by
  have e : (k < R) = (k2 < R2) := propext h
  unfold sTx
  simp only [e]
theorem sCm_cg {p : Nat} (h : k < R ↔ k2 < R2) : sCm b R k p = sCm b R2 k2 p := by
  have e : (k < R) = (k2 < R2) := propext h
  unfold sCm
  simp only [e]
theorem sAt_c {c : Nat} (h : sAt b R k p prev = .inl c) : c = 10 ∨ c = 11 := by
  unfold sAt at h
  split at h
  · injection h with h; exact Or.inl h.symm
  · split at h
    · split at h
      · split at h
        · injection h with h; exact Or.inl h.symm
        · split at h
          · cases h
          · injection h with h; exact Or.inr h.symm
      · injection h with h; exact Or.inl h.symm
    · injection h with h; exact Or.inl h.symm
theorem sTx_c {c : Nat} (h : sTx b R k p = .inl c) : c = 10 ∨ c = 11 := by
  unfold sTx at h
  split at h
  · injection h with h; exact Or.inl h.symm
  · split at h
    · injection h with h; exact Or.inr h.symm
    · split at h
      · injection h with h; exact Or.inl h.symm
      · cases h
theorem sCm_c {c : Nat} (h : sCm b R k p = .inl c) : c = 10 ∨ c = 11 := by
  unfold sCm at h
  split at h
  · split at h
    · injection h with h; exact Or.inl h.symm
    · split at h
      · split at h
        · cases h
        · injection h with h; exact Or.inr h.symm
      · injection h with h; exact Or.inl h.symm
  · injection h with h; exact Or.inl h.symm
theorem sAt_ok {x : Nat × List Int32 × List Int32} (hO : okB b) (hlet : isLet (b.getD p 0) = true) (h : sAt b R k p prev = .inr x) : k < R ∧ p < x.1 ∧ p + x.2.2.length ≤ x.1 ∧ x.1 ≤ b.length ∧ x.2.1 = stre b p (nmE b p - p) := by
  have g0 := nmE_ge (b := b) (p := p)
  unfold sAt at h
  split at h
  · cases h
  · split at h
    · split at h
      · rename_i hq
        split at h
        · cases h
        · rename_i y hy
          split at h
          · rename_i hk
            injection h with h
            have k1 := rdT_ok hO 200 (nmE b p + 2) y.1 y.2 hy
            have k2 : y.1 < b.length := by
              have k3 := k1.2.2.1
              unfold stQ at k3
              rw [decide_eq_true_eq] at k3
              apply nz_lt
              rw [k3]
              rcases hq with hq | hq <;> rw [hq] <;> decide
            rw [← h]
            exact ⟨hk, by dsimp only; omega, by dsimp only; omega, k2, rfl⟩
          · cases h
      · cases h
    · cases h
theorem sTx_ok {x : Nat × List Int32} (hO : okB b) (h : sTx b R k p = .inr x) : k < R ∧ p + x.2.length ≤ x.1 ∧ x.1 ≤ b.length ∧ (¬ b.getD p 0 = 60 → p < x.1) := by
  unfold sTx at h
  split at h
  · cases h
  · rename_i hp
    split at h
    · cases h
    · rename_i hk
      split at h
      · cases h
      · rename_i y hy
        injection h with h
        have k1 := rdT_ok hO 200 p y.1 y.2 hy
        rw [← h]
        refine ⟨Classical.not_not.mp hk, k1.1, k1.2.1 (by omega), fun h60 => k1.2.2.2 ?_⟩
        unfold stT
        rw [decide_eq_false h60, decide_eq_false (okB_nz hO (Classical.not_not.mp hp))]
        rfl
theorem sCm_ok {x : Nat × List Int32} (h : sCm b R k p = .inr x) : k < R ∧ p + 7 ≤ x.1 ∧ p + x.2.length ≤ x.1 ∧ x.1 ≤ b.length ∧ b.getD (p + 2) 0 = 45 ∧ b.getD (p + 3) 0 = 45 := by
  have g1 := dsh_ge (b := b) 200 (p + 4)
  unfold sCm at h
  split at h
  · rename_i h4
    split at h
    · cases h
    · split at h
      · rename_i h6
        split at h
        · rename_i hk
          injection h with h
          have k2 : dsh b 200 (p + 4) + 2 < b.length := nz_lt (by rw [h6]; decide)
          rw [← h]
          refine ⟨hk, by dsimp only; omega, ?_, k2, h4.1, h4.2⟩
          dsimp only
          rw [List.length_take, List.length_drop]
          omega
        · cases h
      · cases h
  · cases h
end SOK
