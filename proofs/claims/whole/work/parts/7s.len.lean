/-! HOW MANY NODES are read: no more than there is room for -/
section RLN
variable {b : List Int32} {R l0 lv fa : Nat}
theorem sAs_len : ∀ (n p : Nat) (ns : List Nd) (x : Nat × List Nd), sAs b R lv fa n p ns = .inr x → ns.length ≤ R → x.2.length ≤ R := by
  intro n
  induction n with
  | zero =>
    intro p ns x h hl
    unfold sAs at h
    injection h with h
    rw [← h]
    exact hl
  | succ n ih =>
    intro p ns x h hl
    unfold sAs at h
    split at h
    · split at h
      · cases h
      · rename_i y hy
        have k := sAt_R hy
        exact ih _ _ x h (by rw [List.length_append, List.length_cons, List.length_nil]; omega)
    · injection h with h
      rw [← h]
      exact hl
theorem sHd_len {p : Nat} {ns : List Nd} {x : Nat × List Nd × Bool} (h : sHd b R lv p ns = .inr x) : x.2.1.length ≤ R := by
  unfold sHd at h
  split at h
  · split at h
    · cases h
    · split at h
      · rename_i hk
        unfold sHe at h
        split at h
        · cases h
        · rename_i y hy
          have k := sAs_len 200 _ _ y hy (by rw [List.length_append, List.length_cons, List.length_nil]; omega)
          unfold hdE at h
          split at h
          · injection h with h
            rw [← h]
            exact k
          · split at h
            · split at h
              · injection h with h
                rw [← h]
                exact k
              · cases h
            · cases h
      · cases h
  · cases h
theorem run_len (hO : okB b) : ∀ (n : Nat) (st : List (List Int32)) (p : Nat) (ns : List Nd) (x : Nat × List Nd), run b R l0 n st p ns = .inr x → ns.length ≤ R → x.2.length ≤ R := by
  intro n
  induction n with
  | zero =>
    intro st p ns x h
    unfold run at h
    cases h
  | succ n ih =>
    intro st p ns x h hl
    cases st with
    | nil =>
      rw [run_nil] at h
      injection h with h
      rw [← h]
      exact hl
    | cons nm st =>
      by_cases hcl : b.getD p 0 = 60 ∧ b.getD (p + 1) 0 = 47
      · rw [run_cl hcl] at h
        split at h
        · cases h
        · exact ih _ _ _ x h hl
      · rw [run_pt hcl] at h
        unfold sPa at h
        split at h
        · split at h
          · cases h
          · split at h
            · split at h
              · cases h
              · rename_i y hy
                have k2 := (sCm_ok hy).1
                exact ih _ _ _ x h (by rw [List.length_append, List.length_cons, List.length_nil]; omega)
            · unfold sEl at h
              split at h
              · cases h
              · rename_i y hy
                split at h
                · exact ih _ _ _ x h (sHd_len hy)
                · exact ih _ _ _ x h (sHd_len hy)
        · split at h
          · cases h
          · rename_i y hy
            have k2 := (sTx_ok hO hy).1
            exact ih _ _ _ x h (by rw [List.length_append, List.length_cons, List.length_nil]; omega)
theorem sPc_len {m : List Nd} (hO : okB b) (h : sPc b R lv = .inr m) : m.length ≤ R := by
  unfold sPc at h
  split at h
  · cases h
  · rename_i y hy
    split at h
    · cases h
    · injection h with h
      rw [← h]
      unfold sPa at hy
      split at hy
      · split at hy
        · cases hy
        · split at hy
          · split at hy
            · cases hy
            · rename_i z hz
              have k2 := (sCm_ok hz).1
              exact run_len hO _ _ _ _ y hy (by rw [List.length_append, List.length_cons, List.length_nil]; omega)
          · unfold sEl at hy
            split at hy
            · cases hy
            · rename_i z hz
              split at hy
              · exact run_len hO _ _ _ _ y hy (sHd_len hz)
              · exact run_len hO _ _ _ _ y hy (sHd_len hz)
      · split at hy
        · cases hy
        · rename_i z hz
          have k2 := (sTx_ok hO hz).1
          exact run_len hO _ _ _ _ y hy (by rw [List.length_append, List.length_cons, List.length_nil]; omega)
end RLN
/-! WHERE a piece may go -/
section PLA
variable {ns : List Nd} {p : Nat}
theorem par_pos2 (hw : wf ns) (h1 : 0 < p) (hp : p < ns.length) : ∃ q, q < p ∧ par ns p = Int32.ofNat q ∧ (nd ns q).1 ≤ 1 ∧ (nd ns q).2.1 + 1 = (nd ns p).2.1 := by
  obtain ⟨q, q1, q2, q3, q4⟩ := par_pos hw h1 hp
  have a := hw.2.2.1 q (by omega)
  have b : (nd ns p).2.1 ≤ (nd ns (q + 1)).2.1 := by
    by_cases c : q + 1 = p
    · rw [c]
      exact Nat.le_refl _
    · exact q4 (q + 1) (by omega) (by omega)
  have a1 := a.1
  refine ⟨q, q1, q2, ?_, by omega⟩
  by_cases c2 : 1 < (nd ns q).1
  · have := a.2.1 c2
    omega
  · omega
theorem skn_all {f : Nd → Bool} : ∀ (m q : Nat), skn f ns q = q + m → (∀ j, q ≤ j → j < q + m → j < ns.length ∧ f (nd ns j) = true) ∧ (q + m < ns.length → f (nd ns (q + m)) = false) := by
  intro m
  induction m with
  | zero =>
    intro q hq
    refine ⟨fun j h1 h2 => by omega, fun hl => ?_⟩
    rcases skn_cases (f := f) (ns := ns) (p := q) with ⟨a1, a2, a3⟩ | ⟨a2, _⟩
    · have := skn_ge (f := f) (ns := ns) (p := q + 1)
      omega
    · exact a2 hl
  | succ m ih =>
    intro q hq
    rcases skn_cases (f := f) (ns := ns) (p := q) with ⟨a1, a2, a3⟩ | ⟨_, a3⟩
    · have k := ih (q + 1) (by omega)
      refine ⟨fun j h1 h2 => ?_, fun hl => ?_⟩
      · by_cases c : j = q
        · rw [c]
          exact ⟨a1, a2⟩
        · exact k.1 j (by omega) (by omega)
      · have := k.2 (by omega)
        rw [show q + 1 + m = q + (m + 1) by omega] at this
        exact this
    · omega
/-- as first child of p -/
theorem plc_0 (hw : wf ns) (hp : p < ns.length) (hk : (nd ns p).1 = 1) : plc ns (skn isAt ns (p + 1)) ((nd ns p).2.1 + 1) := by
  have g1 := skn_ge (f := isAt) (ns := ns) (p := p + 1)
  have g2 := skn_le (f := isAt) (ns := ns) (p := p + 1) (by omega)
  have ka := skn_all (f := isAt) (ns := ns) (skn isAt ns (p + 1) - (p + 1)) (p + 1) (by omega)
  rw [show p + 1 + (skn isAt ns (p + 1) - (p + 1)) = skn isAt ns (p + 1) by omega] at ka
  generalize skn isAt ns (p + 1) = a at g1 g2 ka
  -- the levels of the attributes
  have lv : ∀ d, p + d < a → ((nd ns (p + d)).2.1 = (nd ns p).2.1 + (if d = 0 then 0 else 1)) ∧ (d ≠ 0 → (nd ns (p + d)).1 = 2) := by
    intro d
    induction d with
    | zero => intro _; exact ⟨rfl, fun g => absurd rfl g⟩
    | succ d ih =>
      intro hd
      have i1 := ih (by omega)
      have k := ka.1 (p + (d + 1)) (by omega) (by omega)
      have k2 := k.2
      unfold isAt at k2
      rw [decide_eq_true_eq] at k2
      have ad := (hw.2.2.1 (p + d) (by omega)).2.2.1 k2
      refine ⟨?_, fun _ => k2⟩
      rw [if_neg (by omega), show p + (d + 1) = p + d + 1 by omega]
      by_cases c : d = 0
      · rw [if_pos c] at i1
        rw [c, Nat.add_zero] at ad ⊢
        rcases ad with w | w
        · exact w.2
        · rw [hk] at w
          exact absurd w.1 (by decide)
      · rw [if_neg c] at i1
        rcases ad with w | w
        · have := i1.2 c
          omega
        · omega
  have l1 := lv (a - 1 - p) (by omega)
  rw [show p + (a - 1 - p) = a - 1 by omega] at l1
  refine ⟨by omega, g2, ?_, fun g => ?_, fun hl => ?_⟩
  · have := l1.1
    split at this <;> omega
  · by_cases c : a - 1 - p = 0
    · rw [show a - 1 = p by omega, hk] at g
      exact absurd g (by decide)
    · rw [if_neg c] at l1
      omega
  · have k3 := ka.2 hl
    unfold isAt at k3
    rw [decide_eq_false_iff_not] at k3
    have ad := hw.2.2.1 (a - 1) (by omega)
    rw [show a - 1 + 1 = a by omega] at ad
    refine ⟨?_, k3⟩
    by_cases c : a - 1 - p = 0
    · rw [if_pos c] at l1
      have := ad.1
      omega
    · rw [if_neg c] at l1
      have := ad.2.1 (by rw [l1.2 c]; decide)
      omega
/-- behind all that is below p -/
theorem plc_e {lv : Nat} (hw : wf ns) (hp : p < ns.length) (hlv : (lv = (nd ns p).2.1 + 1 ∧ (nd ns p).1 = 1) ∨ (lv = (nd ns p).2.1 ∧ (nd ns p).1 ≠ 2)) : plc ns (p + siz ns p + 1) lv := by
  have hz := siz_le hp
  have hk2 : (nd ns p).1 ≠ 2 := by
    rcases hlv with g | g
    · rw [g.2]
      decide
    · exact g.2
  have last : (nd ns p).2.1 ≤ (nd ns (p + siz ns p)).2.1 ∧ (siz ns p ≠ 0 → (nd ns p).2.1 < (nd ns (p + siz ns p)).2.1) := by
    by_cases c : siz ns p = 0
    · rw [c]
      exact ⟨Nat.le_refl _, fun g => absurd rfl g⟩
    · have := siz_in (ns := ns) (p := p) (j := p + siz ns p) (by omega) (Nat.le_refl _)
      exact ⟨by omega, fun _ => this.2⟩
  refine ⟨by omega, hz, ?_, fun g => ?_, fun hl => ?_⟩
  · rw [show p + siz ns p + 1 - 1 = p + siz ns p by omega]
    rcases hlv with g | g <;> omega
  · rw [show p + siz ns p + 1 - 1 = p + siz ns p by omega] at g ⊢
    rcases hlv with w | w
    · by_cases c : siz ns p = 0
      · rw [c, Nat.add_zero, w.2] at g
        exact absurd g (by decide)
      · have := last.2 c
        omega
    · omega
  · have so := siz_out (ns := ns) (p := p) hl
    refine ⟨by rcases hlv with g | g <;> omega, fun g => ?_⟩
    have ad := (hw.2.2.1 (p + siz ns p) hl).2.2.1 g
    by_cases c : siz ns p = 0
    · rw [c, Nat.add_zero] at ad so
      rcases ad with w | w
      · omega
      · exact hk2 w.1
    · have := last.2 c
      rcases ad with w | w <;> omega
/-- right before p -/
theorem plc_b (hw : wf ns) (h0 : 0 < p) (hp : p < ns.length) (hk : (nd ns p).1 ≠ 2) : plc ns p (nd ns p).2.1 := by
  have ad := hw.2.2.1 (p - 1) (by omega)
  rw [show p - 1 + 1 = p by omega] at ad
  exact ⟨by omega, by omega, ad.1, ad.2.1, fun _ => ⟨Nat.le_refl _, hk⟩⟩
end PLA
