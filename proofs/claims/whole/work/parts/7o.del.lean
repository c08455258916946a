/-! A LIST WITH TWO TEXTS JOINED -/
def jnO (ns : List Nd) (p : Nat) : List Nd := if jnb ns p then jnL ns p else ns
def adjW (x y : Nd) : Prop := y.2.1 ≤ x.2.1 + 1 ∧ (1 < x.1 → y.2.1 ≤ x.2.1) ∧ (y.1 = 2 → (x.1 = 1 ∧ y.2.1 = x.2.1 + 1) ∨ (x.1 = 2 ∧ y.2.1 = x.2.1))
theorem okB_app {a b : List Int32} (ha : okB a) (hb : okB b) : okB (a ++ b) := by
  intro j hj
  rw [List.length_append] at hj
  rw [getD_app]
  by_cases c : j < a.length
  · rw [if_pos c]
    exact ha j c
  · rw [if_neg c]
    exact hb _ (by omega)
section JNO
variable {D : List Nd} {j : Nat}
theorem jn_ch (h1 : ∀ i, i + 1 < D.length → i ≠ j → adjOk (nd D i) (nd D (i + 1))) (h2 : j + 1 < D.length → adjW (nd D j) (nd D (j + 1))) : chOk (jnO D j) := by
  unfold jnO
  by_cases hj : jnb D j
  · rw [if_pos hj]
    intro i hi
    rw [jn_len hj.1] at hi
    rw [nd_jn hj.1, nd_jn hj.1]
    by_cases c1 : i + 1 < j
    · rw [if_pos (by omega), if_pos c1]
      exact h1 i (by omega) (by omega)
    · by_cases c2 : i + 1 = j
      · rw [if_pos (by omega), if_neg c1, if_pos c2]
        have k := h1 i (by omega) (by omega)
        rw [c2] at k
        exact adjOk_cg k rfl rfl hj.2.1.symm rfl
      · by_cases c3 : i = j
        · rw [if_neg (by omega), if_pos c3, if_neg (by omega), if_neg (by omega)]
          have k := h1 (j + 1) (by omega) (by omega)
          rw [c3]
          exact adjOk_cg k hj.2.2.1.symm hj.2.2.2 rfl rfl
        · rw [if_neg (by omega), if_neg c3, if_neg (by omega), if_neg (by omega)]
          exact h1 (i + 1) (by omega) (by omega)
  · rw [if_neg hj]
    intro i hi
    by_cases c : i = j
    · rw [c] at hi ⊢
      have k := h2 hi
      exact ⟨k.1, k.2.1, k.2.2, fun g => hj ⟨hi, g.1, g.2.1, g.2.2⟩⟩
    · exact h1 i hi c
theorem jn_ok (hk : ∀ i, 1 ≤ i → i < D.length → ndK (nd D i)) (h0 : nd D 0 = doc0) : ∀ i, 1 ≤ i → i < (jnO D j).length → ndK (nd (jnO D j) i) := by
  unfold jnO
  by_cases hj : jnb D j
  · rw [if_pos hj]
    intro i h1 hi
    have hj1 := hj.1
    rw [jn_len hj.1] at hi
    rw [nd_jn hj.1]
    have jp : 1 ≤ j := by
      by_cases c : j = 0
      · have k := hj.2.1
        rw [c, h0] at k
        exact absurd k (by decide)
      · omega
    by_cases c1 : i < j
    · rw [if_pos c1]
      exact hk i h1 (by omega)
    · rw [if_neg c1]
      by_cases c2 : i = j
      · rw [if_pos c2]
        have a := hk j jp (by omega)
        have b := hk (j + 1) (by omega) hj1
        exact ndK_tx a.2.2.1 a.2.2.2.1 (okB_app a.2.2.2.2.2.1 b.2.2.2.2.2.1) (fun g => (a.2.2.2.2.2.2.1 hj.2.1).2 (List.append_eq_nil_iff.mp g).1)
      · rw [if_neg c2]
        exact hk (i + 1) (by omega) (by omega)
  · rw [if_neg hj]
    exact hk
theorem jn_0 (h0 : nd D 0 = doc0) : nd (jnO D j) 0 = doc0 := by
  unfold jnO
  by_cases hj : jnb D j
  · rw [if_pos hj, nd_jn hj.1]
    have jp : 1 ≤ j := by
      by_cases c : j = 0
      · have k := hj.2.1
        rw [c, h0] at k
        exact absurd k (by decide)
      · omega
    rw [if_pos (by omega)]
    exact h0
  · rw [if_neg hj]
    exact h0
theorem jnO_len : (jnO D j).length ≤ D.length ∧ (0 < D.length → 0 < (jnO D j).length) := by
  unfold jnO
  by_cases hj : jnb D j
  · have := hj.1
    rw [if_pos hj, jn_len hj.1]
    omega
  · rw [if_neg hj]
    omega
theorem jnO_tot (hn : ∀ i, i < D.length → (nd D i).1 = 3 → (nd D i).2.2.1 = []) : tot (jnO D j) = tot D := by
  unfold jnO
  by_cases hj : jnb D j
  · have h1 := hj.1
    have k := jn_fl hj (hn j (by omega) hj.2.1) (hn (j + 1) h1 hj.2.2.1)
    rw [if_pos hj]
    unfold tot
    rw [k.1, k.2]
  · rw [if_neg hj]
/-- the class's joinTexts -/
theorem f140_e {F : Nat} {σ : St} (hF : 500 ≤ F) (h : cTr σ D) (hs : szOk D) (hp : j < D.length) (hn : ∀ i, i < D.length → (nd D i).1 = 3 → (nd D i).2.2.1 = []) : ∃ τ, f140 F 1003 (Int32.ofNat j) σ = oI (b2i (decide (jnb D j))) τ ∧ agC σ τ ∧ cTr τ (jnO D j) ∧ szOk (jnO D j) := by
  unfold jnO
  by_cases hj : jnb D j
  · have h1 := hj.1
    have n1 := hn j hp hj.2.1
    have n2 := hn (j + 1) h1 hj.2.2.1
    rw [if_pos hj, decide_eq_true hj]
    obtain ⟨τ, a1, a2, a3⟩ := f140_y hF h hs hj n1 n2
    exact ⟨τ, a1, a2, a3, hs.jn hj n1 n2⟩
  · rw [if_neg hj, decide_eq_false hj]
    exact ⟨σ, f140_n h hs hp hj, agC.refl, h, hs⟩
end JNO
/-! joined texts, written with what stands before them -/
section ATL
variable {pre tl : List Nd} {x v : Nd}
theorem nd_at : nd (pre ++ x :: tl) pre.length = x := by
  rw [ndApp, if_neg (by omega), Nat.sub_self]
  rfl
theorem nd_at1 : nd (pre ++ x :: v :: tl) (pre.length + 1) = v := by
  rw [ndApp, if_neg (by omega), show pre.length + 1 - pre.length = 1 by omega]
  rfl
abbrev tt2 (x v : Nd) : Prop := x.1 = 3 ∧ v.1 = 3 ∧ x.2.1 = v.2.1
theorem jnb_at : jnb (pre ++ x :: v :: tl) pre.length ↔ tt2 x v := by
  unfold jnb
  rw [nd_at, nd_at1, List.length_append, List.length_cons, List.length_cons]
  constructor
  · exact fun g => ⟨g.2.1, g.2.2.1, g.2.2.2⟩
  · exact fun g => ⟨by omega, g.1, g.2.1, g.2.2⟩
theorem jnO_at : jnO (pre ++ x :: v :: tl) pre.length = if tt2 x v then pre ++ (3, x.2.1, [], x.2.2.2 ++ v.2.2.2) :: tl else pre ++ x :: v :: tl := by
  unfold jnO
  by_cases h : tt2 x v
  · rw [if_pos h, if_pos (jnb_at.mpr h)]
    unfold jnL
    rw [nd_at, nd_at1, List.take_left, show pre.length + 2 = pre.length + 2 from rfl, drop_pre]
    rw [List.append_assoc]
    rfl
  · rw [if_neg h, if_neg (fun g => h (jnb_at.mp g))]
theorem jnb_end : ¬ jnb (pre ++ [x]) pre.length := fun g => by
  have := g.1
  rw [List.length_append, List.length_cons, List.length_nil] at this
  omega
theorem addN_at : addN (pre ++ [x]) v = if tt2 x v then pre ++ [(3, v.2.1, x.2.2.1, x.2.2.2 ++ v.2.2.2)] else pre ++ [x, v] := by
  have e : nd (pre ++ [x]) ((pre ++ [x]).length - 1) = x := last_snoc
  have l : (pre ++ [x]).length - 1 = pre.length := by rw [List.length_append, List.length_cons, List.length_nil]; omega
  unfold addN
  by_cases h : tt2 x v
  · rw [if_pos h, if_pos ⟨h.2.1, by rw [List.length_append, List.length_cons]; omega, by rw [e]; exact h.1, by rw [e]; exact h.2.2⟩, e, l, List.take_left]
  · rw [if_neg h, if_neg (fun g => h ⟨by rw [← e]; exact g.2.2.1, g.1, by rw [← e]; exact g.2.2.2⟩), List.append_assoc]
    rfl
theorem fold_C {y : Nd} {t L : List Nd} (h : nj (y :: t)) : (y :: t).foldl addN L = addN L y ++ t := by
  by_cases hm : mgb L y
  · exact fold_B hm h
  · rw [fold_A _ _ (fun _ => hm) h]
    unfold addN
    rw [if_neg hm, List.append_assoc]
    rfl
end ATL
/-! DELETING, as lists -/
section DLL
variable {ns : List Nd} {p : Nat}
def dlL (ns : List Nd) (p : Nat) : List Nd := delL ns p (siz ns p + 1)
theorem dl_adj (hw : wf ns) (h0 : 0 < p) (hp : p < ns.length) : (∀ i, i + 1 < (dlL ns p).length → i ≠ p - 1 → adjOk (nd (dlL ns p) i) (nd (dlL ns p) (i + 1))) ∧ (p - 1 + 1 < (dlL ns p).length → adjW (nd (dlL ns p) (p - 1)) (nd (dlL ns p) (p - 1 + 1))) := by
  have hz := siz_le hp
  have hlen : (dlL ns p).length = ns.length - (siz ns p + 1) := del_len (by omega)
  refine ⟨fun i hi hne => ?_, fun hi => ?_⟩
  · rw [hlen] at hi
    unfold dlL
    rw [nd_del (by omega), nd_del (by omega)]
    by_cases c1 : i + 1 < p
    · rw [if_pos (by omega), if_pos c1]
      exact hw.2.2.1 i (by omega)
    · rw [if_neg (by omega), if_neg c1, show i + 1 + (siz ns p + 1) = i + (siz ns p + 1) + 1 by omega]
      exact hw.2.2.1 _ (by omega)
  · rw [hlen] at hi
    unfold dlL
    rw [nd_del (by omega), nd_del (by omega), if_pos (by omega), if_neg (by omega), show p - 1 + 1 + (siz ns p + 1) = p + siz ns p + 1 by omega]
    have so := siz_out (ns := ns) (p := p) (by omega)
    have a1 := hw.2.2.1 (p - 1) (by omega)
    rw [show p - 1 + 1 = p by omega] at a1
    refine ⟨by have := a1.1; omega, fun g => by have := a1.2.1 g; omega, fun g => ?_⟩
    have a2 := (hw.2.2.1 (p + siz ns p) (by omega)).2.2.1 g
    by_cases cz : siz ns p = 0
    · rw [cz, Nat.add_zero] at a2 so g ⊢
      rcases a2 with k | k
      · omega
      · rcases a1.2.2.1 k.1 with w | w
        · exact Or.inl ⟨w.1, by omega⟩
        · exact Or.inr ⟨w.1, by omega⟩
    · have si := siz_in (ns := ns) (p := p) (j := p + siz ns p) (by omega) (Nat.le_refl _)
      rcases a2 with k | k <;> omega
theorem dl_k (hw : wf ns) (h0 : 0 < p) (hp : p < ns.length) : (∀ i, 1 ≤ i → i < (dlL ns p).length → ndK (nd (dlL ns p) i)) ∧ nd (dlL ns p) 0 = doc0 ∧ 0 < (dlL ns p).length := by
  have hz := siz_le hp
  have hlen : (dlL ns p).length = ns.length - (siz ns p + 1) := del_len (by omega)
  refine ⟨fun i h1 hi => ?_, ?_, by omega⟩
  · rw [hlen] at hi
    unfold dlL
    rw [nd_del (by omega)]
    by_cases c1 : i < p
    · rw [if_pos c1]
      exact (hw.2.2.2 i h1 (by omega)).1
    · rw [if_neg c1]
      exact (hw.2.2.2 _ (by omega) (by omega)).1
  · unfold dlL
    rw [nd_del (by omega), if_pos h0]
    exact hw.2.1
theorem wf_of {D : List Nd} {j : Nat} (hk : ∀ i, 1 ≤ i → i < D.length → ndK (nd D i)) (h0 : nd D 0 = doc0) (hl : 0 < D.length) (h1 : ∀ i, i + 1 < D.length → i ≠ j → adjOk (nd D i) (nd D (i + 1))) (h2 : j + 1 < D.length → adjW (nd D j) (nd D (j + 1))) : wf (jnO D j) := ⟨jnO_len.2 hl, jn_0 h0, jn_ch h1 h2, fun i g1 g2 => ⟨jn_ok hk h0 i g1 g2, (jn_ok hk h0 i g1 g2).2.2.1⟩⟩
theorem dl_wf (hw : wf ns) (h0 : 0 < p) (hp : p < ns.length) : wf (jnO (dlL ns p) (p - 1)) := by
  have a := dl_adj hw h0 hp
  have k := dl_k hw h0 hp
  exact wf_of k.1 k.2.1 k.2.2 a.1 a.2
theorem dl_nm (hw : wf ns) (h0 : 0 < p) (hp : p < ns.length) : ∀ i, i < (dlL ns p).length → (nd (dlL ns p) i).1 = 3 → (nd (dlL ns p) i).2.2.1 = [] := fun i hi h3 => by
  have k := dl_k hw h0 hp
  by_cases c : i = 0
  · rw [c, k.2.1] at h3
    exact absurd h3 (by decide)
  · exact ((k.1 i (by omega) hi).2.2.2.2.2.2.1 h3).1
theorem dl_fold (hw : wf ns) (h0 : 0 < p) (hp : p < ns.length) : (ns.drop (p + siz ns p + 1)).foldl addN (ns.take p) = jnO (dlL ns p) (p - 1) := by
  have hz := siz_le hp
  have eT : ns.take p = ns.take (p - 1) ++ [nd ns (p - 1)] := by
    have k := take_nd (ns := ns) (i := p - 1) (by omega)
    rw [show p - 1 + 1 = p by omega] at k
    exact k
  have lP : (ns.take (p - 1)).length = p - 1 := by rw [List.length_take]; omega
  have hnj : nj (ns.drop (p + siz ns p + 1)) := fun i hi => by
    rw [List.length_drop] at hi
    rw [ndDrop, ndDrop, show p + siz ns p + 1 + (i + 1) = p + siz ns p + 1 + i + 1 by omega]
    exact hw.2.2.1.nj _ (by omega)
  have xk : (nd ns (p - 1)).1 = 3 → (nd ns (p - 1)).2.2.1 = [] := fun g => (hw.tx (by omega) g).1
  have e0 : dlL ns p = ns.take (p - 1) ++ nd ns (p - 1) :: ns.drop (p + siz ns p + 1) := by
    unfold dlL delL
    rw [eT, List.append_assoc, show p + (siz ns p + 1) = p + siz ns p + 1 by omega]
    rfl
  rw [eT, e0]
  clear eT e0
  generalize nd ns (p - 1) = x at xk ⊢
  generalize ns.take (p - 1) = P at lP ⊢
  generalize ns.drop (p + siz ns p + 1) = D at hnj ⊢
  cases D with
  | nil =>
    rw [List.foldl_nil]
    unfold jnO
    rw [if_neg (by rw [← lP]; exact jnb_end)]
  | cons y rest =>
    rw [fold_C hnj, ← lP, jnO_at, addN_at]
    by_cases hA : tt2 x y
    · rw [if_pos hA, if_pos hA, xk hA.1, hA.2.2, List.append_assoc]
      rfl
    · rw [if_neg hA, if_neg hA, List.append_assoc]
      rfl
end DLL
