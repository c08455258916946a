/-! THE REFERENCE KEEPS OLD NODES, one after the other -/
def oldT (σ : St) (ns : List Nd) : Prop := σ.1 1315 3 = Int32.ofNat ns.length ∧ ∀ i, i < ns.length → mNd σ i (nd ns i)
theorem oldT.fr {σ τ : St} {ns : List Nd} (h : oldT σ ns) (g : agN σ τ) : oldT τ ns := ⟨by rw [g.2.1 3 (by decide) (by decide)]; exact h.1, fun i hi => (h.2 i hi).fr (fun a h1 h2 => g.1 a (by omega))⟩
def good (L : List Nd) : Prop := (∀ i, i < L.length → (nd L i).2.1 ≤ 1000 ∧ (nd L i).1 ≤ 1000) ∧ txt L
theorem good_nil : good [] := ⟨fun i hi => absurd hi (Nat.not_lt_zero _), fun i hi => absurd hi (Nat.not_lt_zero _)⟩
theorem wf.tx {ns : List Nd} (h : wf ns) {i : Nat} (hi : i < ns.length) (h3 : (nd ns i).1 = 3) : (nd ns i).2.2.1 = [] ∧ (nd ns i).2.2.2 ≠ [] := by
  by_cases c : i = 0
  · rw [c, h.2.1] at h3
    exact absurd h3 (by decide)
  · exact (h.2.2.2 i (by omega) hi).1.2.2.2.2.2.2.1 h3
theorem drop_nd {ns : List Nd} {s : Nat} (h : s < ns.length) : ns.drop s = nd ns s :: ns.drop (s + 1) := by
  rw [List.drop_eq_getElem_cons h]
  congr 1
  have := nd_some h
  rw [List.getElem?_eq_getElem h] at this
  injection this
section KEP
variable {F s0 s1 : Nat} {ns : List Nd} {G : Nat → Nat → St → Rs}
theorem keep (hF : 5000 ≤ F) (hw : wf ns) (hl : lvOk ns) (hG : ∀ k q σ τ, s0 ≤ q → q < s1 → oldT σ ns → oldT τ ns → f174 F (Int32.ofNat q) σ = oV τ → G (k + 1) q σ = G k (q + 1) τ) (hs1 : s1 ≤ ns.length) : ∀ (m k s e : Nat) (L : List Nd) (σ : St), s0 ≤ s → s + m ≤ s1 → oldT σ ns → nTr σ L e → good L → L.length + m ≤ 30 → e + (pF ns (s + m) - pF ns s) ≤ 4300 → ∃ τ e', G (k + m) s σ = G k (s + m) τ ∧ agN σ τ ∧ nTr τ (((ns.drop s).take m).foldl addN L) e' ∧ e' + pF ns s ≤ e + pF ns (s + m) ∧ good (((ns.drop s).take m).foldl addN L) ∧ (((ns.drop s).take m).foldl addN L).length ≤ L.length + m := by
  intro m
  induction m with
  | zero =>
    intro k s e L σ _ _ _ h hg _ _
    rw [List.take_zero, List.foldl_nil]
    exact ⟨σ, e, rfl, agN.refl, h, by rw [Nat.add_zero]; exact Nat.le_refl _, hg, Nat.le_refl _⟩
  | succ m ih =>
    intro k s e L σ hs hsm ho h hg hL he
    have hsl : s < ns.length := by omega
    have hl1 := hl.1
    have p1 := pF_s hsl
    have p2 : pF ns (s + 1) ≤ pF ns (s + (m + 1)) := by
      unfold pF
      have h1 := wF_le (ns := ns) (show s + 1 ≤ s + (m + 1) by omega)
      have h2 := tF_le (ns := ns) (show s + 1 ≤ s + (m + 1) by omega)
      omega
    have kk := hl.2 s hsl
    have oo := hw.ok s hsl
    obtain ⟨τ, e1, a1, a2, a3, a4⟩ := f174_s (F := F) hF (ho.2 s hsl) oo (by omega) h ⟨by omega, hg.1⟩ hg.2 ⟨kk.2, kk.1⟩ (by omega)
    have al := addN_len (L := L) (x := nd ns s)
    have hg2 : good (addN L (nd ns s)) := ⟨addN_lv hg.1 ⟨kk.2, kk.1⟩, hg.2.add (fun g => (hw.tx hsl g).2)⟩
    obtain ⟨υ, e2, b1, b2, b3, b4, b5, b6⟩ := ih k (s + 1) e1 (addN L (nd ns s)) τ (by omega) (by omega) (ho.fr a2) a3 hg2 (by omega) (by rw [show s + 1 + m = s + (m + 1) by omega]; omega)
    rw [show s + 1 + m = s + (m + 1) by omega] at b1 b4
    rw [drop_nd hsl, List.take_succ_cons, List.foldl_cons]
    refine ⟨υ, e2, ?_, a2.trans b2, b3, by omega, b5, by omega⟩
    rw [← b1, show k + (m + 1) = (k + m) + 1 by omega, hG (k + m) s σ τ hs (by omega) ho (ho.fr a2) a1]
end KEP
/-! side by side: kinds and levels alone -/
theorem adjOk_cg {x x2 y y2 : Nd} (h : adjOk x y) (h1 : x2.1 = x.1) (h2 : x2.2.1 = x.2.1) (h3 : y2.1 = y.1) (h4 : y2.2.1 = y.2.1) : adjOk x2 y2 := by
  unfold adjOk at h ⊢
  rw [h1, h2, h3, h4]
  exact h
theorem nd_pos {ns : List Nd} (h : wf ns) {p : Nat} (h1 : 0 < p) (hp : p < ns.length) : 1 ≤ (nd ns p).1 ∧ 1 ≤ (nd ns p).2.1 := by
  have k := (h.2.2.2 p h1 hp).1
  exact ⟨k.1, k.2.2.1⟩
theorem parS_pos {ns : List Nd} (h : wf ns) {lv : Nat} (hlv : 1 ≤ lv) : ∀ n, 0 < n → ∃ q, q < n ∧ parS ns lv n = Int32.ofNat q ∧ (nd ns q).2.1 < lv ∧ ∀ j, q < j → j < n → lv ≤ (nd ns j).2.1 := by
  intro n
  induction n with
  | zero => intro h0; omega
  | succ n ih =>
    intro _
    unfold parS
    by_cases c : (nd ns n).2.1 < lv
    · rw [if_pos c]
      exact ⟨n, by omega, rfl, c, fun j h1 h2 => by omega⟩
    · rw [if_neg c]
      have hn : 0 < n := by
        by_cases c0 : n = 0
        · rw [c0, h.2.1] at c
          exact absurd hlv c
        · omega
      obtain ⟨q, q1, q2, q3, q4⟩ := ih hn
      exact ⟨q, by omega, q2, q3, fun j h1 h2 => by
        by_cases cj : j = n
        · rw [cj]
          omega
        · exact q4 j h1 (by omega)⟩
theorem par_pos {ns : List Nd} (h : wf ns) {p : Nat} (h1 : 0 < p) (hp : p < ns.length) : ∃ q, q < p ∧ par ns p = Int32.ofNat q ∧ (nd ns q).2.1 < (nd ns p).2.1 ∧ ∀ j, q < j → j < p → (nd ns p).2.1 ≤ (nd ns j).2.1 := parS_pos h (nd_pos h h1 hp).2 p h1
/-- what is below p, and what comes behind it -/
theorem siz_in {ns : List Nd} {p j : Nat} (h1 : p < j) (h2 : j ≤ p + siz ns p) : j < ns.length ∧ (nd ns p).2.1 < (nd ns j).2.1 := by
  have g : ∀ (m q : Nat), skn (deeper (nd ns p).2.1) ns q = q + m → ∀ j, q ≤ j → j < q + m → j < ns.length ∧ (nd ns p).2.1 < (nd ns j).2.1 := by
    intro m
    induction m with
    | zero => intro q _ j h1 h2; omega
    | succ m ih =>
      intro q hq j h1 h2
      rcases skn_cases (f := deeper (nd ns p).2.1) (ns := ns) (p := q) with ⟨a1, a2, a3⟩ | ⟨_, a3⟩
      · by_cases c : j = q
        · unfold deeper at a2
          rw [decide_eq_true_eq] at a2
          rw [c]
          exact ⟨a1, a2⟩
        · exact ih (q + 1) (by omega) j (by omega) (by omega)
      · omega
  have k1 := skn_ge (f := deeper (nd ns p).2.1) (ns := ns) (p := p + 1)
  unfold siz at h2
  exact g (skn (deeper (nd ns p).2.1) ns (p + 1) - (p + 1)) (p + 1) (by omega) j (by omega) (by omega)
theorem siz_out {ns : List Nd} {p : Nat} (h : p + siz ns p + 1 < ns.length) : (nd ns (p + siz ns p + 1)).2.1 ≤ (nd ns p).2.1 := by
  have g : ∀ (m q : Nat), skn (deeper (nd ns p).2.1) ns q = q + m → q + m < ns.length → (nd ns (q + m)).2.1 ≤ (nd ns p).2.1 := by
    intro m
    induction m with
    | zero =>
      intro q hq hl
      rcases skn_cases (f := deeper (nd ns p).2.1) (ns := ns) (p := q) with ⟨a1, a2, a3⟩ | ⟨a2, _⟩
      · have := skn_ge (f := deeper (nd ns p).2.1) (ns := ns) (p := q + 1)
        omega
      · have a4 := a2 (by omega)
        unfold deeper at a4
        rw [decide_eq_false_iff_not] at a4
        rw [Nat.add_zero]
        omega
    | succ m ih =>
      intro q hq hl
      rcases skn_cases (f := deeper (nd ns p).2.1) (ns := ns) (p := q) with ⟨a1, a2, a3⟩ | ⟨_, a3⟩
      · have k := ih (q + 1) (by omega) (by omega)
        rw [show q + 1 + m = q + (m + 1) by omega] at k
        exact k
      · omega
  have k1 := skn_ge (f := deeper (nd ns p).2.1) (ns := ns) (p := p + 1)
  have k2 := g (skn (deeper (nd ns p).2.1) ns (p + 1) - (p + 1)) (p + 1) (by omega)
  have e : p + 1 + (skn (deeper (nd ns p).2.1) ns (p + 1) - (p + 1)) = p + siz ns p + 1 := by
    unfold siz
    omega
  rw [e] at k2
  exact k2 h
