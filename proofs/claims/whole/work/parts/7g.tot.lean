/-! HOW MANY CHARACTERS are kept: no more than were read -/
def tot (ns : List Nd) : Nat := (flW ns).length + (flT ns).length
section TOT
variable {b : List Int32} {R l0 lv fa : Nat}
theorem tot_snoc {ns : List Nd} {y : Nd} : tot (ns ++ [y]) = tot ns + y.2.2.1.length + y.2.2.2.length := by
  unfold tot
  rw [flW_snoc, flT_snoc, List.length_append, List.length_append]
  unfold wOf tOf
  rw [List.length_append]
  by_cases c : y.1 = 3
  · rw [if_pos c, if_pos c, List.length_nil]
    omega
  · rw [if_neg c, if_neg c, List.length_nil]
    omega
theorem sAt_tot {k p : Nat} {prev : List Nd} {x : Nat × List Int32 × List Int32} (hO : okB b) (h : sAt b R k p prev = .inr x) : x.2.1.length + x.2.2.length + p ≤ x.1 := by
  have g0 := nmE_ge (b := b) (p := p)
  unfold sAt at h
  split at h
  · cases h
  · split at h
    · split at h
      · split at h
        · cases h
        · rename_i y hy
          split at h
          · injection h with h
            have k1 := rdT_ok hO 200 (nmE b p + 2) y.1 y.2 hy
            rw [← h]
            have k2 : (stre b p (nmE b p - p)).length ≤ nmE b p - p := by
              unfold stre
              rw [List.length_take]
              omega
            dsimp only
            omega
          · cases h
      · cases h
    · cases h
theorem sAs_tot (hO : okB b) : ∀ (n p : Nat) (ns : List Nd) (x : Nat × List Nd), sAs b R lv fa n p ns = .inr x → tot x.2 + p ≤ tot ns + x.1 := by
  intro n
  induction n with
  | zero =>
    intro p ns x h
    unfold sAs at h
    injection h with h
    rw [← h]
    exact Nat.le_refl _
  | succ n ih =>
    intro p ns x h
    have g1 := skp_ge (f := isBl) (b := b) (p := p)
    unfold sAs at h
    split at h
    · split at h
      · cases h
      · rename_i y hy
        have k := ih _ _ x h
        have k2 := sAt_tot hO hy
        rw [tot_snoc] at k
        dsimp only at k
        omega
    · injection h with h
      rw [← h]
      dsimp only
      omega
theorem sHd_tot {p : Nat} {ns : List Nd} {x : Nat × List Nd × Bool} (hO : okB b) (h : sHd b R lv p ns = .inr x) : tot x.2.1 + p ≤ tot ns + x.1 := by
  have g0 := nmE_ge (b := b) (p := p + 1)
  unfold sHd at h
  split at h
  · split at h
    · cases h
    · split at h
      · unfold sHe at h
        split at h
        · cases h
        · rename_i y hy
          have k := sAs_tot hO 200 _ _ y hy
          rw [tot_snoc] at k
          have k2 : (stre b (p + 1) (nmE b (p + 1) - (p + 1))).length ≤ nmE b (p + 1) - (p + 1) := by
            unfold stre
            rw [List.length_take]
            omega
          dsimp only at k
          rw [List.length_nil] at k
          unfold hdE at h
          split at h
          · injection h with h
            rw [← h]
            dsimp only
            omega
          · split at h
            · split at h
              · injection h with h
                rw [← h]
                dsimp only
                omega
              · cases h
            · cases h
      · cases h
  · cases h
theorem run_tot (hO : okB b) : ∀ (n : Nat) (st : List (List Int32)) (p : Nat) (ns : List Nd) (x : Nat × List Nd), run b R l0 n st p ns = .inr x → tot x.2 + p ≤ tot ns + x.1 := by
  intro n
  induction n with
  | zero =>
    intro st p ns x h
    unfold run at h
    cases h
  | succ n ih =>
    intro st p ns x h
    cases st with
    | nil =>
      rw [run_nil] at h
      injection h with h
      rw [← h]
      exact Nat.le_refl _
    | cons nm st =>
      by_cases hcl : b.getD p 0 = 60 ∧ b.getD (p + 1) 0 = 47
      · rw [run_cl hcl] at h
        split at h
        · cases h
        · rename_i q hq
          have k := ih _ _ _ x h
          have k2 := sCl_ok hq
          omega
      · rw [run_pt hcl] at h
        unfold sPa at h
        split at h
        · split at h
          · cases h
          · split at h
            · split at h
              · cases h
              · rename_i y hy
                have k := ih _ _ _ x h
                have k2 := sCm_ok hy
                rw [tot_snoc] at k
                dsimp only at k
                rw [List.length_nil] at k
                omega
            · unfold sEl at h
              split at h
              · cases h
              · rename_i y hy
                have k2 := sHd_tot hO hy
                split at h
                · have k := ih _ _ _ x h
                  omega
                · have k := ih _ _ _ x h
                  omega
        · split at h
          · cases h
          · rename_i y hy
            have k := ih _ _ _ x h
            have k2 := sTx_ok hO hy
            rw [tot_snoc] at k
            dsimp only at k
            rw [List.length_nil] at k
            omega
theorem sEl_tot {n p : Nat} {st : List (List Int32)} {ns : List Nd} {x : Nat × List Nd} (hO : okB b) (h : sEl b R l0 (run b R l0 n) st p ns = .inr x) : tot x.2 + p ≤ tot ns + x.1 := by
  unfold sEl at h
  split at h
  · cases h
  · rename_i y hy
    have k2 := sHd_tot hO hy
    split at h
    · have k := run_tot hO _ _ _ _ x h
      omega
    · have k := run_tot hO _ _ _ _ x h
      omega
theorem sOu_tot (hO : okB b) : ∀ (n p : Nat) (ns : List Nd) (x : Nat × List Nd), sOu b R n p ns = .inr x → tot x.2 + p ≤ tot ns + x.1 := by
  intro n
  induction n with
  | zero =>
    intro p ns x h
    unfold sOu at h
    injection h with h
    rw [← h]
    exact Nat.le_refl _
  | succ n ih =>
    intro p ns x h
    have g1 := skp_ge (f := isBl) (b := b) (p := p)
    unfold sOu at h
    split at h
    · cases h
    · split at h
      · split at h
        · cases h
        · rename_i y hy
          have k := ih _ _ x h
          have k2 := sCm_ok hy
          rw [tot_snoc] at k
          dsimp only at k
          rw [List.length_nil] at k
          omega
      · injection h with h
        rw [← h]
        dsimp only
        omega
end TOT
section TOD
variable {b : List Int32}
theorem sOu_le {R : Nat} : ∀ (n p : Nat) (ns : List Nd) (x : Nat × List Nd), p ≤ b.length → sOu b R n p ns = .inr x → x.1 ≤ b.length := by
  intro n
  induction n with
  | zero =>
    intro p ns x hp h
    unfold sOu at h
    injection h with h
    rw [← h]
    exact hp
  | succ n ih =>
    intro p ns x hp h
    have g2 := skp_le (f := isBl) hp
    unfold sOu at h
    split at h
    · cases h
    · split at h
      · split at h
        · cases h
        · rename_i y hy
          exact ih _ _ x (sCm_ok hy).2.2.2.1 h
      · injection h with h
        rw [← h]
        exact g2
theorem sHd_le {R lv p : Nat} {ns : List Nd} {x : Nat × List Nd × Bool} (h : sHd b R lv p ns = .inr x) : x.1 ≤ b.length := by
  unfold sHd at h
  split at h
  · split at h
    · cases h
    · split at h
      · unfold sHe at h
        split at h
        · cases h
        · unfold hdE at h
          split at h
          · rename_i h62
            injection h with h
            rw [← h]
            exact nz_lt (by rw [h62]; decide)
          · split at h
            · split at h
              · rename_i h62
                injection h with h
                rw [← h]
                exact nz_lt (by rw [h62]; decide)
              · cases h
            · cases h
      · cases h
  · cases h
theorem run_le {R l0 : Nat} (hO : okB b) : ∀ (n : Nat) (st : List (List Int32)) (p : Nat) (ns : List Nd) (x : Nat × List Nd), p ≤ b.length → run b R l0 n st p ns = .inr x → x.1 ≤ b.length := by
  intro n
  induction n with
  | zero =>
    intro st p ns x _ h
    unfold run at h
    cases h
  | succ n ih =>
    intro st p ns x hp h
    cases st with
    | nil =>
      rw [run_nil] at h
      injection h with h
      rw [← h]
      exact hp
    | cons nm st =>
      by_cases hcl : b.getD p 0 = 60 ∧ b.getD (p + 1) 0 = 47
      · rw [run_cl hcl] at h
        split at h
        · cases h
        · rename_i q hq
          exact ih _ _ _ x (sCl_ok hq).2 h
      · rw [run_pt hcl] at h
        unfold sPa at h
        split at h
        · split at h
          · cases h
          · split at h
            · split at h
              · cases h
              · rename_i y hy
                exact ih _ _ _ x (sCm_ok hy).2.2.2.1 h
            · unfold sEl at h
              split at h
              · cases h
              · rename_i y hy
                split at h
                · exact ih _ _ _ x (sHd_le hy) h
                · exact ih _ _ _ x (sHd_le hy) h
        · split at h
          · cases h
          · rename_i y hy
            exact ih _ _ _ x (sTx_ok hO hy).2.2.1 h
theorem sEl_le {R l0 n p : Nat} {st : List (List Int32)} {ns : List Nd} {x : Nat × List Nd} (hO : okB b) (h : sEl b R l0 (run b R l0 n) st p ns = .inr x) : x.1 ≤ b.length := by
  unfold sEl at h
  split at h
  · cases h
  · rename_i y hy
    split at h
    · exact run_le hO _ _ _ _ x (sHd_le hy) h
    · exact run_le hO _ _ _ _ x (sHd_le hy) h
theorem sDoc_tot {m : List Nd} (hO : okB b) (h : sDoc b = .inr m) : tot m ≤ b.length := by
  unfold sDoc at h
  split at h
  · cases h
  · rename_i x hx
    have k1 := sOu_tot hO _ _ _ x hx
    split at h
    · split at h
      · cases h
      · rename_i y hy
        have k2 := sEl_tot hO hy
        have k3 := sEl_le hO hy
        split at h
        · cases h
        · rename_i z hz
          have k4 := sOu_tot hO _ _ _ z hz
          have k5 := sOu_le _ _ _ z k3 hz
          split at h
          · cases h
          · injection h with h
            rw [← h]
            have k6 : tot [doc0] = 0 := rfl
            omega
    · cases h
theorem sPc_tot {R lv : Nat} {m : List Nd} (hO : okB b) (h : sPc b R lv = .inr m) : tot m ≤ b.length := by
  have t0 : tot [] = 0 := rfl
  unfold sPc at h
  split at h
  · cases h
  · rename_i y hy
    split at h
    · cases h
    · injection h with h
      rw [← h]
      unfold sPa at hy
      split at hy
      · split at hy
        · cases hy
        · split at hy
          · split at hy
            · cases hy
            · rename_i z hz
              have k := run_tot hO _ _ _ _ y hy
              have k2 := run_le hO _ _ _ _ y (sCm_ok hz).2.2.2.1 hy
              have k3 := sCm_ok hz
              rw [tot_snoc] at k
              dsimp only at k
              rw [List.length_nil] at k
              omega
          · have k := sEl_tot hO hy
            have k2 := sEl_le hO hy
            omega
      · split at hy
        · cases hy
        · rename_i z hz
          have k := run_tot hO _ _ _ _ y hy
          have k2 := run_le hO _ _ _ _ y (sTx_ok hO hz).2.2.1 hy
          have k3 := sTx_ok hO hz
          rw [tot_snoc] at k
          dsimp only at k
          rw [List.length_nil] at k
          omega
end TOD
