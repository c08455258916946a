/-! the reference's number of a text -/
/-- t stands for the text s -/
def txS (F : Nat) (σ : St) (t : Int64) (s : List Int32) : Prop := ∀ k, k < 100000 → f238 F t (Int32.ofNat k) σ = oI (s.getD k 0) σ
section NUM
variable {F : Nat} {σ : St} {t : Int64} {s : List Int32}
theorem f241_120_e {n k : Nat} {m : Bool} {y5 : Int64} (ht : txS F σ t s) (ho : okB s) (hl : s.length ≤ 5000) (hn : n ≤ 5000) (hk : k + n ≤ s.length) (h9 : n ≤ 9 → y5 = Int64.ofInt (dgN s k n)) : ∀ (d j p : Nat), p ≤ s.length → skp isBl s p = p + d → skp isBl s p = skp isBl s (k + n) → f241_120 F (j + d + 1) t (Int32.ofNat p) (b2i m) y5 (Int32.ofNat n) σ = oJ (eM (if n < 1 then none else if 9 < n then none else if skp isBl s (k + n) < s.length then none else some (if m = true then -(dgN s k n : Int) else (dgN s k n : Int)))) σ := by
  intro d
  induction d with
  | zero =>
    intro j p hp hs he
    have h1 : isBl (s.getD p 0) = false := by
      rcases skp_cases (b := s) (p := p) isBl_0 with ⟨h1, h2, h3⟩ | ⟨h1, h2⟩
      · have h4 := skp_ge (f := isBl) (b := s) (p := p + 1)
        omega
      · exact h1
    rw [f241_120.eq_2, ht p (by omega), cIo, f153_e, cIo, h1, if_pos b2i_f]
    by_cases c1 : n < 1
    · rw [if_pos (show Int32.ofNat n < 1 from (oN_lt (q := 1) (by omega) (by decide)).mpr c1), if_pos c1]
      rfl
    · rw [if_neg (show ¬ Int32.ofNat n < 1 from fun g => c1 ((oN_lt (q := 1) (by omega) (by decide)).mp g)), if_neg c1]
      by_cases c2 : 9 < n
      · rw [if_pos (show 9 < Int32.ofNat n from (oN_lt (p := 9) (by decide) (by omega)).mpr c2), if_pos c2]
        rfl
      · rw [if_neg (show ¬ 9 < Int32.ofNat n from fun g => c2 ((oN_lt (p := 9) (by decide) (by omega)).mp g)), if_neg c2, ht p (by omega), cIo, h9 (by omega), ← he, hs, Nat.add_zero]
        by_cases c3 : p < s.length
        · rw [if_pos c3, if_neg (okB_nz ho c3)]
          rfl
        · rw [if_neg c3, if_pos (getD_ge (by omega)), ifbJ]
          cases m
          · rfl
          · rw [if_pos rfl, if_pos rfl, neg64]
            rfl
  | succ d ih =>
    intro j p hp hs he
    rcases skp_cases (b := s) (p := p) isBl_0 with ⟨h1, h2, h3⟩ | ⟨h1, h2⟩
    · rw [show j + (d + 1) + 1 = (j + d + 1) + 1 by omega, f241_120.eq_2, ht p (by omega), cIo, f153_e, cIo, h1, if_neg (show ¬ b2i true = 0 by decide), oN_p1]
      exact ih j (p + 1) (by omega) (by omega) (by omega)
    · omega
theorem f241_57_e {k : Nat} {m : Bool} (hF : 15000 ≤ F) (ht : txS F σ t s) (ho : okB s) (hl : s.length ≤ 5000) (hk : k ≤ s.length) : ∀ (d j n : Nat) (y5 : Int64), k + n + d = skp isDig s k → skp isDig s (k + n) = skp isDig s k → (n ≤ 9 → y5 = Int64.ofInt (dgN s k n)) → f241_57 F (j + d + 1) t (Int32.ofNat (k + n)) (b2i m) y5 (Int32.ofNat n) σ = oJ (eM (if skp isDig s k - k < 1 then none else if 9 < skp isDig s k - k then none else if skp isBl s (skp isDig s k) < s.length then none else some (if m = true then -(dgN s k (skp isDig s k - k) : Int) else (dgN s k (skp isDig s k - k) : Int)))) σ := by
  have hle := skp_le (f := isDig) (b := s) (p := k) hk
  intro d
  induction d with
  | zero =>
    intro j n y5 hn hsk h9
    have hend : isDig (s.getD (k + n) 0) = false := by
      rcases skp_cases (b := s) (p := k + n) isDig_0 with ⟨h1, h2, h3⟩ | ⟨h1, h2⟩
      · have h4 := skp_ge (f := isDig) (b := s) (p := k + n + 1)
        omega
      · exact h1
    have fin : f241_120 F F t (Int32.ofNat (k + n)) (b2i m) y5 (Int32.ofNat n) σ = oJ (eM (if skp isDig s k - k < 1 then none else if 9 < skp isDig s k - k then none else if skp isBl s (skp isDig s k) < s.length then none else some (if m = true then -(dgN s k (skp isDig s k - k) : Int) else (dgN s k (skp isDig s k - k) : Int)))) σ := by
      have b1 := skp_ge (f := isBl) (b := s) (p := k + n)
      have b2 := skp_le (f := isBl) (b := s) (p := k + n) (by omega)
      have := f241_120_e (F := F) (m := m) ht ho hl (k := k) (n := n) (by omega) (by omega) h9 (skp isBl s (k + n) - (k + n)) (F - (skp isBl s (k + n) - (k + n)) - 1) (k + n) (by omega) (by omega) rfl
      rw [show F - (skp isBl s (k + n) - (k + n)) - 1 + (skp isBl s (k + n) - (k + n)) + 1 = F by omega] at this
      rw [← hn, show k + n + 0 = k + n by omega, show k + n - k = n by omega]
      exact this
    rw [f241_57.eq_2, ht (k + n) (by omega), cIo]
    by_cases c1 : s.getD (k + n) 0 < 48
    · rw [if_pos c1]
      exact fin
    · rw [if_neg c1, ht (k + n) (by omega), cIo]
      have c2 : 57 < s.getD (k + n) 0 := by
        by_cases c2 : 57 < s.getD (k + n) 0
        · exact c2
        · unfold isDig at hend
          rw [decide_eq_false c1, decide_eq_false c2] at hend
          cases hend
      rw [if_pos c2]
      exact fin
  | succ d ih =>
    intro j n y5 hn hsk h9
    have h1 : isDig (s.getD (k + n) 0) = true := by
      rcases skp_cases (b := s) (p := k + n) isDig_0 with ⟨h1, h2, h3⟩ | ⟨h1, h2⟩
      · exact h1
      · omega
    have h3 : skp isDig s (k + n) = skp isDig s (k + n + 1) := skp_t (dig_lt h1) h1
    have h5 := h1
    unfold isDig at h5
    rw [Bool.and_eq_true, Bool.not_eq_true', Bool.not_eq_true', decide_eq_false_iff_not, decide_eq_false_iff_not] at h5
    rw [show j + (d + 1) + 1 = (j + d + 1) + 1 by omega, f241_57.eq_2, ht (k + n) (by omega), cIo, if_neg h5.1, ht (k + n) (by omega), cIo, if_neg h5.2]
    unfold f241_109
    by_cases c : n < 10
    · rw [if_pos (show Int32.ofNat n < 10 from (oN_lt (q := 10) (by omega) (by decide)).mpr c), ht (k + n) (by omega), cIo, h9 (by omega), dg_ref h1, oN_p1, oN_p1]
      exact ih j (n + 1) _ (by omega) (by rw [show k + (n + 1) = k + n + 1 by omega, ← h3]; exact hsk) (fun _ => rfl)
    · rw [if_neg (show ¬ Int32.ofNat n < 10 from fun g => c ((oN_lt (q := 10) (by omega) (by decide)).mp g)), oN_p1, oN_p1]
      exact ih j (n + 1) _ (by omega) (by rw [show k + (n + 1) = k + n + 1 by omega, ← h3]; exact hsk) (fun g => by omega)
theorem f241_e (hF : 15000 ≤ F) (ht : txS F σ t s) (ho : okB s) (hl : s.length ≤ 5000) : f241 F t σ = oJ (eM (numT s)) σ := by
  have t1 : numT s = if skp isDig s (nuK s) - nuK s < 1 then none else if 9 < skp isDig s (nuK s) - nuK s then none else if skp isBl s (skp isDig s (nuK s)) < s.length then none else some (if nuM s = true then -(dgN s (nuK s) (skp isDig s (nuK s) - nuK s) : Int) else (dgN s (nuK s) (skp isDig s (nuK s) - nuK s) : Int)) := rfl
  have b2 := skp_le (f := isBl) (b := s) (p := 0) (by omega)
  have key : ∀ (k : Nat) (m : Bool), k ≤ s.length → f241_57 F F t (Int32.ofNat k) (b2i m) 0 0 σ = oJ (eM (if skp isDig s k - k < 1 then none else if 9 < skp isDig s k - k then none else if skp isBl s (skp isDig s k) < s.length then none else some (if m = true then -(dgN s k (skp isDig s k - k) : Int) else (dgN s k (skp isDig s k - k) : Int)))) σ := by
    intro k m hk
    have g1 := skp_ge (f := isDig) (b := s) (p := k)
    have g2 := skp_le (f := isDig) (b := s) (p := k) hk
    have := f241_57_e (F := F) (m := m) hF ht ho hl hk (skp isDig s k - k) (F - (skp isDig s k - k) - 1) 0 0 (by omega) rfl (fun _ => rfl)
    rw [show F - (skp isDig s k - k) - 1 + (skp isDig s k - k) + 1 = F by omega] at this
    exact this
  have lp : ∀ (d j p : Nat), skp isBl s p = p + d → skp isBl s p = nuB s → p ≤ s.length → f241_2 F (j + d + 1) t (Int32.ofNat p) σ = oJ (eM (numT s)) σ := by
    intro d
    induction d with
    | zero =>
      intro j p hs he hp
      have h1 : isBl (s.getD p 0) = false := by
        rcases skp_cases (b := s) (p := p) isBl_0 with ⟨h1, h2, h3⟩ | ⟨h1, h2⟩
        · have h4 := skp_ge (f := isBl) (b := s) (p := p + 1)
          omega
        · exact h1
      have hpb : p = nuB s := by omega
      subst hpb
      rw [f241_2.eq_2, ht _ (by omega), cIo, f153_e, cIo, h1, if_pos b2i_f, ht _ (by omega), cIo]
      unfold f241_36 f241_50
      by_cases c2 : s.getD (nuB s) 0 = 45
      · have hm : nuM s = true := decide_eq_true c2
        have hk : nuK s = nuB s + 1 := by unfold nuK; rw [if_pos hm]
        have hlt : nuB s < s.length := by
          by_cases g : nuB s < s.length
          · exact g
          · rw [getD_ge (by omega)] at c2
            exact absurd c2 (by decide)
        rw [if_pos c2, if_neg (by decide), oN_p1, t1, hk, hm]
        exact key (nuB s + 1) true (by omega)
      · have hm : nuM s = false := decide_eq_false c2
        have hk : nuK s = nuB s := by unfold nuK; rw [if_neg (by rw [hm]; decide)]
        rw [if_neg c2, if_pos rfl, t1, hk, hm]
        exact key (nuB s) false (by omega)
    | succ d ih =>
      intro j p hs he hp
      rcases skp_cases (b := s) (p := p) isBl_0 with ⟨h1, h2, h3⟩ | ⟨h1, h2⟩
      · rw [show j + (d + 1) + 1 = (j + d + 1) + 1 by omega, f241_2.eq_2, ht p (by omega), cIo, f153_e, cIo, h1, if_neg (show ¬ b2i true = 0 by decide), oN_p1]
        exact ih j (p + 1) (by omega) (by omega) (by omega)
      · omega
  have e0 : skp isBl s 0 = nuB s := rfl
  have := lp (nuB s) (F - nuB s - 1) 0 (by omega) rfl (by omega)
  rw [show F - nuB s - 1 + nuB s + 1 = F by omega] at this
  exact this
end NUM
