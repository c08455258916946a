/-! NODES ADDED ONE AFTER THE OTHER -/
def txt (L : List Nd) : Prop := ∀ i, i < L.length → (nd L i).1 = 3 → (nd L i).2.2.2 ≠ []
theorem txt.add {L : List Nd} {x : Nd} (h : txt L) (hx : x.1 = 3 → x.2.2.2 ≠ []) : txt (addN L x) := by
  unfold addN
  by_cases hm : mgb L x
  · rw [if_pos hm]
    have h0 := hm.2.1
    have w1 : (L.take (L.length - 1)).length = L.length - 1 := by rw [List.length_take]; omega
    intro i hi hk
    rw [List.length_append, w1, List.length_cons, List.length_nil] at hi
    rw [nd_snoc, w1] at hk ⊢
    by_cases c : i < L.length - 1
    · rw [if_pos c, ndTake, if_pos c] at hk ⊢
      exact h i (by omega) hk
    · rw [if_neg c, if_pos (by omega)]
      intro g
      exact h (L.length - 1) (by omega) hm.2.2.1 (List.append_eq_nil_iff.mp g).1
  · rw [if_neg hm]
    intro i hi hk
    rw [List.length_append, List.length_cons, List.length_nil] at hi
    rw [nd_snoc] at hk ⊢
    by_cases c : i < L.length
    · rw [if_pos c] at hk ⊢
      exact h i c hk
    · rw [if_neg c, if_pos (by omega)] at hk ⊢
      exact hx hk
theorem addN_lv {L : List Nd} {x : Nd} (h : ∀ i, i < L.length → (nd L i).2.1 ≤ 1000 ∧ (nd L i).1 ≤ 1000) (hx : x.1 ≤ 1000 ∧ x.2.1 ≤ 1000) : ∀ i, i < (addN L x).length → (nd (addN L x) i).2.1 ≤ 1000 ∧ (nd (addN L x) i).1 ≤ 1000 := by
  unfold addN
  by_cases hm : mgb L x
  · rw [if_pos hm]
    have h0 := hm.2.1
    have w1 : (L.take (L.length - 1)).length = L.length - 1 := by rw [List.length_take]; omega
    intro i hi
    rw [List.length_append, w1, List.length_cons, List.length_nil] at hi
    rw [nd_snoc, w1]
    by_cases c : i < L.length - 1
    · rw [if_pos c, ndTake, if_pos c]
      exact h i (by omega)
    · rw [if_neg c, if_pos (by omega)]
      exact ⟨hx.2, (by decide : 3 ≤ 1000)⟩
  · rw [if_neg hm]
    intro i hi
    rw [List.length_append, List.length_cons, List.length_nil] at hi
    rw [nd_snoc]
    by_cases c : i < L.length
    · rw [if_pos c]
      exact h i c
    · rw [if_neg c, if_pos (by omega)]
      exact ⟨hx.2, hx.1⟩
theorem addN_len {L : List Nd} {x : Nd} : (addN L x).length ≤ L.length + 1 ∧ L.length ≤ (addN L x).length ∧ 0 < (addN L x).length := by
  unfold addN
  by_cases hm : mgb L x
  · have h0 := hm.2.1
    rw [if_pos hm, List.length_append, List.length_take, List.length_cons, List.length_nil]
    omega
  · rw [if_neg hm, List.length_append, List.length_cons, List.length_nil]
    omega
section FLD
variable {F e : Nat} {L : List Nd} {x : Nd} {σ : St}
theorem nTr.own {i : Nat} (h : nTr σ L e) (hi : i < L.length) : (nd L i).2.2.2.length ≤ e := by
  obtain ⟨_, _, _, _, na, ta, _, _, _, k8, _⟩ := h.2.2 i hi
  omega
theorem f174_s {p : Nat} (hF : 5000 ≤ F) (hx : mNd σ p x) (hO : okB x.2.2.1 ∧ okB x.2.2.2) (hp : p < 31) (h : nTr σ L e) (hl : lvOk L) (ht : txt L) (hk : x.1 ≤ 1000 ∧ x.2.1 ≤ 1000) (h1 : e + x.2.2.1.length + x.2.2.2.length ≤ 4300) : ∃ τ e', f174 F (Int32.ofNat p) σ = oV τ ∧ agN σ τ ∧ nTr τ (addN L x) e' ∧ e' ≤ e + x.2.2.1.length + x.2.2.2.length := by
  by_cases hm : mgb L x
  · have h0 := hm.2.1
    have ho := h.own (show L.length - 1 < L.length by omega)
    exact ⟨_, _, f174_m hF hx hO hp h hl hm (ht _ (by omega) hm.2.2.1) (by omega) (by omega), endM_ag agN.refl, h.mrg hm, by omega⟩
  · refine ⟨_, _, f174_n hF hx hO hp h hl hk hm h1, endN_ag agN.refl, ?_, Nat.le_refl _⟩
    have k := h.add (x := x) endN_st
    unfold addN
    rw [if_neg hm]
    exact k
theorem f177_s {d base : Nat} {y : Md} (hF : 5000 ≤ F) (hx : dNd σ d y x) (hO : okB x.2.2.1 ∧ okB x.2.2.2) (hk1 : x.1 = y.1) (hk2 : x.2.1 = y.2.1 + base) (hd : d < 31) (h : nTr σ L e) (hl : lvOk L) (ht : txt L) (hk : x.1 ≤ 1000 ∧ x.2.1 ≤ 1000) (h1 : e + x.2.2.1.length + x.2.2.2.length ≤ 4300) : ∃ τ e', f177 F (Int32.ofNat d) (Int32.ofNat base) σ = oI (Int32.ofNat ((addN L x).length - 1)) τ ∧ agN σ τ ∧ nTr τ (addN L x) e' ∧ e' ≤ e + x.2.2.1.length + x.2.2.2.length := by
  by_cases hm : mgb L x
  · have h0 := hm.2.1
    have ho := h.own (show L.length - 1 < L.length by omega)
    have hlen : (addN L x).length - 1 = L.length - 1 := by
      unfold addN
      rw [if_pos hm, List.length_append, List.length_take, List.length_cons, List.length_nil]
      omega
    rw [hlen]
    exact ⟨_, _, f177_m hF hx hO hk1 hk2 hd h hl hm (ht _ (by omega) hm.2.2.1) (by omega) (by omega), endM_ag agN.refl, h.mrg hm, by omega⟩
  · have hlen : (addN L x).length - 1 = L.length := by
      unfold addN
      rw [if_neg hm, List.length_append, List.length_cons, List.length_nil]
      omega
    rw [hlen]
    refine ⟨_, _, f177_n hF hx hO hk1 hk2 hd h hl hk hm h1, endN_ag agN.refl, ?_, Nat.le_refl _⟩
    have k := h.add (x := x) endN_st
    unfold addN
    rw [if_neg hm]
    exact k
end FLD
/-! the same as lists -/
def nj (xs : List Nd) : Prop := ∀ i, i + 1 < xs.length → ¬ ((nd xs i).1 = 3 ∧ (nd xs (i + 1)).1 = 3 ∧ (nd xs i).2.1 = (nd xs (i + 1)).2.1)
theorem chOk.nj {xs : List Nd} (h : chOk xs) : nj xs := fun i hi => (h i hi).2.2.2
theorem fold_A : ∀ (xs L : List Nd), (xs ≠ [] → ¬ mgb L (nd xs 0)) → nj xs → xs.foldl addN L = L ++ xs
  | [], L, _, _ => by rw [List.foldl_nil, List.append_nil]
  | x :: t, L, h0, h => by
    have hm : ¬ mgb L x := h0 (List.cons_ne_nil _ _)
    rw [List.foldl_cons, show addN L x = L ++ [x] from if_neg hm, fold_A t (L ++ [x]) (fun ht g => by
      obtain ⟨g1, g2, g3, g4⟩ := g
      rw [show nd (L ++ [x]) ((L ++ [x]).length - 1) = x from last_snoc] at g3 g4
      have k := h 0 (by rw [List.length_cons]; have := List.length_pos_iff.mpr ht; omega)
      exact k ⟨g3, g1, g4⟩) (fun i hi => h (i + 1) (by rw [List.length_cons]; omega)), List.append_assoc]
    rfl
theorem fold_B {x : Nd} {t L : List Nd} (hm : mgb L x) (h : nj (x :: t)) : (x :: t).foldl addN L = addN L x ++ t := by
  rw [List.foldl_cons]
  refine fold_A t (addN L x) (fun ht g => ?_) (fun i hi => h (i + 1) (by rw [List.length_cons]; omega))
  obtain ⟨g1, g2, g3, g4⟩ := g
  have e : nd (addN L x) ((addN L x).length - 1) = (3, x.2.1, (nd L (L.length - 1)).2.2.1, (nd L (L.length - 1)).2.2.2 ++ x.2.2.2) := by
    unfold addN
    rw [if_pos hm]
    exact last_snoc
  rw [e] at g4
  have k := h 0 (by rw [List.length_cons]; have := List.length_pos_iff.mpr ht; omega)
  exact k ⟨hm.1, g1, g4⟩
