/-! INTS THAT ARE SMALL NUMBERS, and booleans -/
section NAT
variable {p q : Nat}
theorem oN_lt (hp : p < 2147483648) (hq : q < 2147483648) : (Int32.ofNat p < Int32.ofNat q) ↔ p < q := by
  rw [Int32.lt_iff_toInt_lt, oN_i hp, oN_i hq]
  omega
theorem oN_eq (hp : p < 2147483648) (hq : q < 2147483648) : (Int32.ofNat p = Int32.ofNat q) ↔ p = q := by
  rw [← Int32.toInt_inj, oN_i hp, oN_i hq]
  omega
theorem oN_nn (hp : p < 2147483648) : ¬ Int32.ofNat p < 0 := by
  have h := oN_lt (q := 0) hp (by decide)
  intro hh
  have h2 := h.mp hh
  omega
theorem oN_ad : Int32.ofNat p + Int32.ofNat q = Int32.ofNat (p + q) := by
  rw [Int32.ofNat_add]
theorem oN_sb (h : q ≤ p) : Int32.ofNat p - Int32.ofNat q = Int32.ofNat (p - q) := by
  have e1 : Int32.ofNat p = Int32.ofNat (p - q) + Int32.ofNat q := by rw [oN_ad, show p - q + q = p by omega]
  rw [e1, Int32.add_sub_cancel]
theorem oN_rg {n : Nat} (h : p < n) (hn : n < 2147483648) : inB (Int32.ofNat p) n := inB_of (by rw [oN_i (by omega)]; omega) (by rw [oN_i (by omega)]; omega)
end NAT
def b2i (b : Bool) : Int32 := if b = true then 1 else 0
theorem b2i_0 {b : Bool} : b2i b = 0 ↔ b = false := by cases b <;> decide
theorem b2i_z (b : Bool) : b2i b = 0 ∨ b2i b = 1 := by cases b <;> decide
theorem b2i_t : b2i true = 1 := rfl
theorem b2i_f : b2i false = 0 := rfl
/-! kinds of characters -/
def isLet (c : Int32) : Bool := (!decide (c < 97) && !decide (122 < c)) || (!decide (c < 65) && !decide (90 < c))
def isDig (c : Int32) : Bool := !decide (c < 48) && !decide (57 < c)
def isNam (c : Int32) : Bool := isLet c || isDig c || decide (c = 45) || decide (c = 95)
def isBl (c : Int32) : Bool := decide (c = 10) || decide (c = 32)
section CHR
variable {F : Nat} {c : Int32} {σ : St}
theorem f22_e : f22 F c σ = oI (b2i (isLet c)) σ := by
  unfold f22 f22_12 isLet
  by_cases h1 : c < 97 <;> by_cases h2 : 122 < c <;> by_cases h3 : c < 65 <;> by_cases h4 : 90 < c <;> simp [h1, h2, h3, h4, b2i]
theorem f156_e : f156 F c σ = oI (b2i (isLet c)) σ := by
  unfold f156 f156_12 isLet
  by_cases h1 : c < 97 <;> by_cases h2 : 122 < c <;> by_cases h3 : c < 65 <;> by_cases h4 : 90 < c <;> simp [h1, h2, h3, h4, b2i]
theorem f23_e : f23 F c σ = oI (b2i (isDig c)) σ := by
  unfold f23 isDig
  by_cases h1 : c < 48 <;> by_cases h2 : 57 < c <;> simp [h1, h2, b2i]
theorem f153_e : f153 F c σ = oI (b2i (isBl c)) σ := by
  unfold f153 isBl
  by_cases h1 : c = 10 <;> by_cases h2 : c = 32 <;> simp [h1, h2, b2i]
theorem f164_e : f164 F c σ = oI (b2i (isNam c)) σ := by
  unfold f164 f164_19 isNam
  rw [f156_e, cIo]
  by_cases h0 : isLet c = true
  · rw [h0, if_neg (by decide)]
    rfl
  · rw [Bool.not_eq_true] at h0
    rw [h0, if_pos (by decide)]
    unfold isDig
    by_cases h1 : c < 48 <;> by_cases h2 : 57 < c <;> by_cases h3 : c = 45 <;> by_cases h4 : c = 95 <;> simp [h1, h2, h3, h4, b2i]
end CHR
/-! THE BUFFER as a list, in the class's cells and in the reference's -/
def bufC (σ : St) (b : List Int32) : Prop := σ.1 1001 1 = Int32.ofNat b.length ∧ ∀ j, j < b.length → σ.1 1002 j = b.getD j 0
def bufM (σ : St) (b : List Int32) : Prop := σ.1 1315 1 = Int32.ofNat b.length ∧ ∀ j, j < b.length → σ.1 1316 j = b.getD j 0
theorem cap_c : laN 1002 = 120 := by decide +kernel
theorem getD_ge {b : List Int32} {k : Nat} (h : b.length ≤ k) : b.getD k 0 = 0 := by
  rw [List.getD_eq_getElem?_getD, List.getElem?_eq_none h]
  rfl
section BUF
variable {F k : Nat} {b : List Int32} {σ : St}
theorem f152_e (h : bufM σ b) (hb : b.length ≤ 120) (hk : k < 100000) : f152 F (Int32.ofNat k) σ = oI (b.getD k 0) σ := by
  unfold f152
  simp only [lt]
  rw [h.1]
  by_cases hl : k < b.length
  · rw [if_pos ((oN_lt (by omega) (by omega)).mpr hl), if_pos (oN_rg (by omega) (by decide)), oN_n (by omega), h.2 k hl]
  · rw [if_neg (fun hh => hl ((oN_lt (by omega) (by omega)).mp hh)), getD_ge (by omega)]
theorem f92_e (h : bufC σ b) (hb : b.length ≤ 120) (hk : k < 100000) : f92 F 1001 (Int32.ofNat k) σ = oI (b.getD k 0) σ := by
  unfold f92
  simp only [lt]
  rw [if_neg (oN_nn (by omega)), h.1, rf_b, cap_c]
  by_cases hl : k < b.length
  · rw [if_pos ((oN_lt (by omega) (by omega)).mpr hl), if_pos (oN_rg (by omega) (by decide)), oN_n (by omega), h.2 k hl]
  · rw [if_neg (fun hh => hl ((oN_lt (by omega) (by omega)).mp hh)), getD_ge (by omega)]
end BUF
