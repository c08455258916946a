/-! NAMES AND WORDS in the buffer -/
/-- behind the name at p, p where none begins -/
def nmE (b : List Int32) (p : Nat) : Nat := if isLet (b.getD p 0) = true then skp isNam b (p + 1) else p
theorem nmE_ge {b : List Int32} {p : Nat} : p ≤ nmE b p := by
  unfold nmE
  split
  · have h := skp_ge (f := isNam) (b := b) (p := p + 1)
    omega
  · exact Nat.le_refl _
theorem let_lt {b : List Int32} {p : Nat} (h : isLet (b.getD p 0) = true) : p < b.length := by
  by_cases hp : p < b.length
  · exact hp
  · rw [getD_ge (by omega), isLet_0] at h
    cases h
theorem nmE_le {b : List Int32} {p : Nat} (hp : p ≤ b.length) : nmE b p ≤ b.length := by
  unfold nmE
  split
  · rename_i h
    exact skp_le (let_lt h)
  · exact hp
section NAM
variable {F : Nat} {b : List Int32} {σ : St}
theorem f163_17_e (hb : b.length ≤ 120) (hB : bufM σ b) : ∀ (m n p : Nat), p ≤ 1000 → skp isNam b p = p + m → f163_17 F (n + m + 1) (Int32.ofNat p) σ = oI (Int32.ofNat (p + m)) σ := by
  intro m
  induction m with
  | zero =>
    intro n p hp hs
    rcases skp_cases (b := b) (p := p) isNam_0 with ⟨h1, h2, h3⟩ | ⟨h1, h2⟩
    · have h4 := skp_ge (f := isNam) (b := b) (p := p + 1)
      omega
    · rw [f163_17.eq_2, f152_e hB hb (by omega), cIo, f164_e, cIo, h1, if_pos b2i_f]
      rfl
  | succ m ih =>
    intro n p hp hs
    rcases skp_cases (b := b) (p := p) isNam_0 with ⟨h1, h2, h3⟩ | ⟨h1, h2⟩
    · rw [show n + (m + 1) + 1 = (n + m + 1) + 1 by omega, f163_17.eq_2, f152_e hB hb (by omega), cIo, f164_e, cIo, h1, if_neg (by decide), oN_p1, ih n (p + 1) (by omega) (by omega), show p + 1 + m = p + (m + 1) by omega]
    · omega
theorem f163_e {p : Nat} (hF : 500 ≤ F) (hb : b.length ≤ 120) (hB : bufM σ b) (hp : p ≤ 1000) : f163 F (Int32.ofNat p) σ = oI (Int32.ofNat (nmE b p)) σ := by
  unfold f163
  rw [f152_e hB hb (by omega), cIo, f156_e, cIo]
  unfold nmE
  by_cases hl : isLet (b.getD p 0) = true
  · have hp2 := let_lt hl
    have h1 := skp_ge (f := isNam) (b := b) (p := p + 1)
    have h2 := skp_le (f := isNam) (b := b) (p := p + 1) hp2
    obtain ⟨m, hm⟩ : ∃ m, skp isNam b (p + 1) = p + 1 + m := ⟨skp isNam b (p + 1) - (p + 1), by omega⟩
    obtain ⟨n, rfl⟩ : ∃ n, F = n + m + 1 := ⟨F - m - 1, by omega⟩
    rw [if_pos hl, hl, if_neg (by decide), oN_p1, f163_17_e hb hB m n (p + 1) (by omega) hm, hm]
  · rw [if_neg hl]
    rw [Bool.not_eq_true] at hl
    rw [hl, if_pos b2i_f]
theorem f96_17_e (hb : b.length ≤ 120) (hB : bufC σ b) (s : Nat) : ∀ (m n p : Nat), s ≤ p → p ≤ b.length → skp isNam b p = p + m → f96_17 F (n + m + 1) 1001 (Int32.ofNat s) (Int32.ofNat p) σ = oI (Int32.ofNat (p + m - s)) σ := by
  intro m
  induction m with
  | zero =>
    intro n p hsp hp hs
    rcases skp_cases (b := b) (p := p) isNam_0 with ⟨h1, h2, h3⟩ | ⟨h1, h2⟩
    · have h4 := skp_ge (f := isNam) (b := b) (p := p + 1)
      omega
    · rw [f96_17.eq_2]
      simp only [lt]
      rw [hB.1]
      by_cases hl : p < b.length
      · rw [if_pos ((oN_lt (by omega) (by omega)).mpr hl), rf_b, cap_c, if_pos (oN_rg (by omega) (by decide))]
        simp only [oN_n (show p < 2147483648 by omega), hB.2 p hl]
        have h5 : isNam (b.getD p 0) = false := h1
        simp only [isNam, Bool.or_eq_false_iff, decide_eq_false_iff_not] at h5
        rw [f22_e, cIo, h5.1.1.1, if_pos b2i_f, f23_e, cIo, h5.1.1.2, if_pos b2i_f, if_neg h5.1.2, if_neg h5.2, oN_sb hsp]
        rfl
      · rw [if_neg (fun hh => hl ((oN_lt (by omega) (by omega)).mp hh)), oN_sb (by omega), show p + 0 = b.length by omega]
  | succ m ih =>
    intro n p hsp hp hs
    rcases skp_cases (b := b) (p := p) isNam_0 with ⟨h1, h2, h3⟩ | ⟨h1, h2⟩
    · rw [show n + (m + 1) + 1 = (n + m + 1) + 1 by omega, f96_17.eq_2]
      unfold f96_62
      simp only [lt]
      rw [hB.1, if_pos ((oN_lt (by omega) (by omega)).mpr h2), rf_b, cap_c, if_pos (oN_rg (by omega) (by decide))]
      simp only [oN_n (show p < 2147483648 by omega), hB.2 p h2]
      have i1 := ih n (p + 1) (by omega) (by omega) (by omega)
      rw [show p + 1 + m = p + (m + 1) by omega, ← oN_p1] at i1
      rw [f22_e, cIo]
      by_cases hl : isLet (b.getD p 0) = true
      · rw [hl, if_neg (by decide), i1]
      · have h5 : isNam (b.getD p 0) = true := h1
        rw [Bool.not_eq_true] at hl
        rw [hl, if_pos b2i_f, f23_e, cIo]
        by_cases hd : isDig (b.getD p 0) = true
        · rw [hd, if_neg (by decide), i1]
        · rw [Bool.not_eq_true] at hd
          rw [hd, if_pos b2i_f]
          simp only [isNam, hl, hd, Bool.false_or, Bool.or_eq_true, decide_eq_true_eq] at h5
          by_cases h6 : b.getD p 0 = 45
          · rw [if_pos h6, i1]
          · rw [if_neg h6, if_pos (h5.elim (fun hh => absurd hh h6) id), i1]
    · omega
theorem f96_e {p : Nat} (hF : 500 ≤ F) (hb : b.length ≤ 120) (hB : bufC σ b) (hp : p ≤ 1000) : f96 F 1001 (Int32.ofNat p) σ = oI (Int32.ofNat (nmE b p - p)) σ := by
  unfold f96
  rw [f92_e hB hb (by omega), cIo, f22_e, cIo]
  unfold nmE
  by_cases hl : isLet (b.getD p 0) = true
  · have hp2 := let_lt hl
    have h1 := skp_ge (f := isNam) (b := b) (p := p + 1)
    have h2 := skp_le (f := isNam) (b := b) (p := p + 1) hp2
    obtain ⟨m, hm⟩ : ∃ m, skp isNam b (p + 1) = p + 1 + m := ⟨skp isNam b (p + 1) - (p + 1), by omega⟩
    obtain ⟨n, rfl⟩ : ∃ n, F = n + m + 1 := ⟨F - m - 1, by omega⟩
    rw [if_pos hl, hl, if_neg (by decide), oN_p1, f96_17_e hb hB p m n (p + 1) (by omega) (by omega) hm, hm]
  · rw [if_neg hl]
    rw [Bool.not_eq_true] at hl
    rw [hl, if_pos b2i_f, Nat.sub_self]
    rfl
/-- does the constant w stand at p -/
def spl (b : List Int32) (p w j : Nat) : Nat → Bool
  | 0 => true
  | m + 1 => decide (b.getD (p + j) 0 = schr w j) && spl b p w (j + 1) m
theorem f94_21_e (hb : b.length ≤ 120) (hB : bufC σ b) (w p : Nat) (hp : p + slen w ≤ b.length) : ∀ (m n j : Nat), j + m = slen w → f94_21 F (n + m + 1) 1001 (Int32.ofNat p) w (Int32.ofNat j) σ = oI (b2i (spl b p w j m)) σ := by
  have hw := slen_le w
  intro m
  induction m with
  | zero =>
    intro n j hj
    rw [f94_21.eq_2]
    unfold f248
    rw [cIo, if_neg (fun hh => by have := (oN_lt (by omega) (by omega)).mp hh; omega)]
    rfl
  | succ m ih =>
    intro n j hj
    rw [show n + (m + 1) + 1 = (n + m + 1) + 1 by omega, f94_21.eq_2]
    unfold f248 f250
    simp only [lt]
    rw [cIo, if_pos ((oN_lt (by omega) (by omega)).mpr (by omega)), oN_ad, rf_b, cap_c, if_pos (oN_rg (by omega) (by decide))]
    simp only [oN_n (show p + j < 2147483648 by omega), oN_n (show j < 2147483648 by omega), hB.2 (p + j) (by omega)]
    rw [if_pos (oN_rg (by omega) (by omega)), cIo]
    unfold spl
    by_cases he : b.getD (p + j) 0 = schr w j
    · rw [if_pos he, oN_p1, ih n (j + 1) (by omega), decide_eq_true he, Bool.true_and]
    · rw [if_neg he, decide_eq_false he, Bool.false_and]
      rfl
end NAM
/-- no character of a constant is 0 -/
theorem schr_nz : ∀ w, w ≤ 67 → ∀ j, j < slen w → schr w j ≠ 0 := by decide +kernel
theorem spl_len {b : List Int32} {w p : Nat} (hw : w ≤ 67) : ∀ (m j : Nat), j + m = slen w → spl b p w j m = true → 0 < m → p + slen w ≤ b.length := by
  intro m
  induction m with
  | zero => intro j _ _ h; omega
  | succ m ih =>
    intro j hj hs _
    unfold spl at hs
    rw [Bool.and_eq_true, decide_eq_true_eq] at hs
    by_cases hm : 0 < m
    · exact ih (j + 1) (by omega) hs.2 hm
    · have h1 := schr_nz w hw j (by omega)
      rw [← hs.1] at h1
      by_cases hp : p + j < b.length
      · omega
      · exact absurd (getD_ge (by omega)) h1
theorem f94_e {F : Nat} {b : List Int32} {σ : St} {w p : Nat} (hF : 500 ≤ F) (hb : b.length ≤ 120) (hB : bufC σ b) (hw : w ≤ 67) (hp : p ≤ 1000) (hn : 0 < slen w) : f94 F 1001 (Int32.ofNat p) w σ = oI (b2i (spl b p w 0 (slen w))) σ := by
  have hl := slen_le w
  unfold f94 f248
  simp only [lt]
  rw [if_neg (oN_nn (by omega)), cIo, hB.1, oN_ad]
  by_cases h : b.length < p + slen w
  · rw [if_pos ((oN_lt (by omega) (by omega)).mpr h)]
    have h2 : spl b p w 0 (slen w) = false := by
      rw [← Bool.not_eq_true]
      intro hh
      have h3 := spl_len hw (slen w) 0 (by omega) hh hn
      omega
    rw [h2]
    rfl
  · obtain ⟨n, rfl⟩ : ∃ n, F = n + slen w + 1 := ⟨F - slen w - 1, by omega⟩
    rw [if_neg (fun hh => h ((oN_lt (by omega) (by omega)).mp hh))]
    exact f94_21_e hb hB w p (by omega) (slen w) n 0 (by omega)
