/-! WHICH exceptions a reading can end in -/
abbrev okC (c : Nat) : Prop := c = 10 ∨ c = 11 ∨ c = 13
section COD
variable {b : List Int32} {R l0 lv fa : Nat}
theorem okC2 {c : Nat} (h : c = 10 ∨ c = 11) : okC c := h.elim Or.inl (fun g => Or.inr (Or.inl g))
theorem sAs_c : ∀ (n p : Nat) (ns : List Nd) (c : Nat), sAs b R lv fa n p ns = .inl c → c = 10 ∨ c = 11 := by
  intro n
  induction n with
  | zero =>
    intro p ns c h
    unfold sAs at h
    cases h
  | succ n ih =>
    intro p ns c h
    unfold sAs at h
    split at h
    · split at h
      · rename_i d hd
        injection h with h
        rw [← h]
        exact sAt_c hd
      · exact ih _ _ c h
    · cases h
theorem sHd_c {p c : Nat} {ns : List Nd} (h : sHd b R lv p ns = .inl c) : c = 10 ∨ c = 11 := by
  unfold sHd at h
  split at h
  · split at h
    · injection h with h
      exact Or.inr h.symm
    · split at h
      · unfold sHe at h
        split at h
        · rename_i d hd
          injection h with h
          rw [← h]
          exact sAs_c _ _ _ _ hd
        · unfold hdE at h
          split at h
          · cases h
          · split at h
            · split at h
              · cases h
              · injection h with h
                exact Or.inl h.symm
            · injection h with h
              exact Or.inl h.symm
      · injection h with h
        exact Or.inr h.symm
  · injection h with h
    exact Or.inl h.symm
theorem sHd_adv {p : Nat} {ns : List Nd} {x : Nat × List Nd × Bool} (hO : okB b) (h : sHd b R lv p ns = .inr x) : p + 2 < x.1 := by
  have g0 := nmE_ge (b := b) (p := p + 1)
  unfold sHd at h
  split at h
  · rename_i hlet
    have g3 : p + 1 < nmE b (p + 1) := by
      unfold nmE
      rw [if_pos hlet]
      exact skp_ge (f := isNam) (b := b) (p := p + 1 + 1)
    split at h
    · cases h
    · split at h
      · unfold sHe at h
        split at h
        · cases h
        · rename_i y hy
          have k : nmE b (p + 1) ≤ y.1 := by
            have z : ∀ (n q : Nat) (ms : List Nd) (w : Nat × List Nd), sAs b R (lv + 1) (ns.length + 1) n q ms = .inr w → q ≤ w.1 := by
              intro n
              induction n with
              | zero =>
                intro q ms w hh
                unfold sAs at hh
                injection hh with hh
                rw [← hh]
                exact Nat.le_refl _
              | succ n ih =>
                intro q ms w hh
                have g1 := skp_ge (f := isBl) (b := b) (p := q)
                unfold sAs at hh
                split at hh
                · split at hh
                  · cases hh
                  · rename_i u hu
                    have k1 := sAt_tot hO hu
                    have k2 := ih _ _ w hh
                    omega
                · injection hh with hh
                  rw [← hh]
                  exact g1
            exact z _ _ _ y hy
          unfold hdE at h
          split at h
          · injection h with h
            rw [← h]
            dsimp only
            omega
          · split at h
            · split at h
              · injection h with h
                rw [← h]
                dsimp only
                omega
              · cases h
            · cases h
      · cases h
  · cases h
theorem run_c (hO : okB b) : ∀ (n : Nat) (st : List (List Int32)) (p : Nat) (ns : List Nd) (c : Nat), b.length - p < n → run b R l0 n st p ns = .inl c → okC c := by
  intro n
  induction n with
  | zero => intro st p ns c hn; omega
  | succ n ih =>
    intro st p ns c hn h
    cases st with
    | nil =>
      rw [run_nil] at h
      cases h
    | cons nm st =>
      by_cases hcl : b.getD p 0 = 60 ∧ b.getD (p + 1) 0 = 47
      · have hp : p < b.length := nz_lt (by rw [hcl.1]; decide)
        rw [run_cl hcl] at h
        split at h
        · injection h with h
          exact Or.inl h.symm
        · rename_i q hq
          have := sCl_ok hq
          exact ih _ _ _ c (by omega) h
      · rw [run_pt hcl] at h
        unfold sPa at h
        split at h
        · rename_i h60
          have hp : p < b.length := nz_lt (by rw [h60]; decide)
          split at h
          · injection h with h
            exact Or.inr (Or.inr h.symm)
          · split at h
            · split at h
              · rename_i d hd
                injection h with h
                rw [← h]
                exact okC2 (sCm_c hd)
              · rename_i y hy
                have := sCm_ok hy
                exact ih _ _ _ c (by omega) h
            · unfold sEl at h
              split at h
              · rename_i d hd
                injection h with h
                rw [← h]
                exact okC2 (sHd_c hd)
              · rename_i y hy
                have := sHd_adv hO hy
                split at h
                · exact ih _ _ _ c (by omega) h
                · exact ih _ _ _ c (by omega) h
        · rename_i h60
          split at h
          · rename_i d hd
            injection h with h
            rw [← h]
            exact okC2 (sTx_c hd)
          · rename_i y hy
            have k := sTx_ok hO hy
            have k2 := k.2.2.2 h60
            have k3 := (sTx_ch hO hy).2.2.1
            exact ih _ _ _ c (by omega) h
theorem sEl_c {p c n : Nat} {st : List (List Int32)} {ns : List Nd} (hO : okB b) (hn : b.length - p ≤ n) (hp : p < b.length) (h : sEl b R l0 (run b R l0 n) st p ns = .inl c) : okC c := by
  unfold sEl at h
  split at h
  · rename_i d hd
    injection h with h
    rw [← h]
    exact okC2 (sHd_c hd)
  · rename_i y hy
    have := sHd_adv hO hy
    split at h
    · exact run_c hO _ _ _ _ c (by omega) h
    · exact run_c hO _ _ _ _ c (by omega) h
theorem sOu_c : ∀ (n p : Nat) (ns : List Nd) (c : Nat), sOu b R n p ns = .inl c → okC c := by
  intro n
  induction n with
  | zero =>
    intro p ns c h
    unfold sOu at h
    cases h
  | succ n ih =>
    intro p ns c h
    unfold sOu at h
    split at h
    · injection h with h
      exact Or.inr (Or.inr h.symm)
    · split at h
      · split at h
        · rename_i d hd
          injection h with h
          rw [← h]
          exact okC2 (sCm_c hd)
        · exact ih _ _ c h
      · cases h
theorem sDoc_c {c : Nat} (hO : okB b) (hb : b.length ≤ 120) (h : sDoc b = .inl c) : okC c := by
  unfold sDoc at h
  split at h
  · rename_i d hd
    injection h with h
    rw [← h]
    exact sOu_c _ _ _ _ hd
  · split at h
    · rename_i h60
      split at h
      · rename_i d hd
        injection h with h
        rw [← h]
        exact sEl_c hO (by omega) (nz_lt (by rw [h60]; decide)) hd
      · split at h
        · rename_i d hd
          injection h with h
          rw [← h]
          exact sOu_c _ _ _ _ hd
        · split at h
          · injection h with h
            exact Or.inl h.symm
          · cases h
    · injection h with h
      exact Or.inl h.symm
theorem sPc_c {c : Nat} (hO : okB b) (hb : b.length ≤ 120) (h : sPc b R lv = .inl c) : okC c := by
  unfold sPc at h
  split at h
  · rename_i d hd
    injection h with h
    rw [← h]
    unfold sPa at hd
    split at hd
    · rename_i h60
      have hp : 0 < b.length := nz_lt (by rw [h60]; decide)
      split at hd
      · injection hd with hd
        exact Or.inr (Or.inr hd.symm)
      · split at hd
        · split at hd
          · rename_i e he
            injection hd with hd
            rw [← hd]
            exact okC2 (sCm_c he)
          · exact run_c hO _ _ _ _ d (by omega) hd
        · exact sEl_c hO (by omega) hp hd
    · split at hd
      · rename_i e he
        injection hd with hd
        rw [← hd]
        exact okC2 (sTx_c he)
      · exact run_c hO _ _ _ _ d (by omega) hd
  · split at h
    · injection h with h
      exact Or.inl h.symm
    · cases h
end COD
