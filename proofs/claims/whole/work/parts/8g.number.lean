/-! THE NUMBER THAT A TEXT SPELLS -/
theorem cJo {x : Int64} {σ : St} {kk : Int64 → St → Rs} : cJ (oJ x σ) kk = kk x σ := rfl
def dgN (s : List Int32) (i : Nat) : Nat → Nat
  | 0 => 0
  | n + 1 => dgN s i n * 10 + ((s.getD (i + n) 0).toNatClampNeg - 48)
def nuB (s : List Int32) : Nat := skp isBl s 0
def nuM (s : List Int32) : Bool := decide (s.getD (nuB s) 0 = 45)
def nuK (s : List Int32) : Nat := if nuM s = true then nuB s + 1 else nuB s
def nuE (s : List Int32) : Nat := skp isDig s (nuK s)
def numT (s : List Int32) : Option Int :=
  if nuE s - nuK s < 1 then none else if 9 < nuE s - nuK s then none else if skp isBl s (nuE s) < s.length then none
  else some (if nuM s = true then -(dgN s (nuK s) (nuE s - nuK s) : Int) else (dgN s (nuK s) (nuE s - nuK s) : Int))
def eC (o : Option Int) : Int64 := match o with | none => 4611686018427387904 | some v => Int64.ofInt v
def eM (o : Option Int) : Int64 := match o with | none => -1000000000000000 | some v => Int64.ofInt v
theorem isDig_0 : isDig 0 = false := by decide
theorem dig_c {c : Int32} (h : isDig c = true) : ∃ d, d ≤ 9 ∧ c = Int32.ofNat (48 + d) ∧ c.toNatClampNeg - 48 = d := by
  unfold isDig at h
  rw [Bool.and_eq_true, Bool.not_eq_true', Bool.not_eq_true', decide_eq_false_iff_not, decide_eq_false_iff_not] at h
  have h1 : ¬ c < 0 := fun g => h.1 (Int32.lt_trans g (by decide))
  obtain ⟨k, hk, rfl⟩ := nn_cases c h1
  have a1 : ¬ k < 48 := fun g => h.1 ((oN_lt (q := 48) hk (by decide)).mpr g)
  have a2 : ¬ 57 < k := fun g => h.2 ((oN_lt (p := 57) (by decide) hk).mpr g)
  exact ⟨k - 48, by omega, by rw [show 48 + (k - 48) = k by omega], by rw [oN_n hk]⟩
theorem dig_lt {s : List Int32} {p : Nat} (h : isDig (s.getD p 0) = true) : p < s.length := by
  by_cases hp : p < s.length
  · exact hp
  · rw [getD_ge (by omega), isDig_0] at h
    cases h
theorem t64 (c : Int32) : c.toInt64 = Int64.ofInt c.toInt := by
  rw [← Int32.toInt_toInt64, Int64.ofInt_toInt]
theorem dg_cls {s : List Int32} {i n : Nat} (h : isDig (s.getD (i + n) 0) = true) : Int64.ofInt (dgN s i n) * 10 + (s.getD (i + n) 0 - 48 : Int32).toInt64 = Int64.ofInt (dgN s i (n + 1)) := by
  obtain ⟨d, h1, h2, h3⟩ := dig_c h
  show _ = Int64.ofInt ((dgN s i n * 10 + ((s.getD (i + n) 0).toNatClampNeg - 48) : Nat) : Int)
  rw [h3, h2, show (Int32.ofNat (48 + d) - 48 : Int32) = Int32.ofNat d from (oN_sb (q := 48) (by omega)).trans (by rw [show 48 + d - 48 = d by omega]), t64, oN_i (by omega), show (10 : Int64) = Int64.ofInt 10 from rfl, ← Int64.ofInt_mul, ← Int64.ofInt_add]
  congr 1
theorem dg_ref {s : List Int32} {i n : Nat} (h : isDig (s.getD (i + n) 0) = true) : ((10 * Int64.ofInt (dgN s i n)) + (s.getD (i + n) 0).toInt64) - 48 = Int64.ofInt (dgN s i (n + 1)) := by
  obtain ⟨d, h1, h2, h3⟩ := dig_c h
  show _ = Int64.ofInt ((dgN s i n * 10 + ((s.getD (i + n) 0).toNatClampNeg - 48) : Nat) : Int)
  rw [h3, h2, t64, oN_i (by omega), show (10 : Int64) = Int64.ofInt 10 from rfl, show (48 : Int64) = Int64.ofInt 48 from rfl, ← Int64.ofInt_mul, ← Int64.ofInt_add, ← Int64.ofInt_sub]
  congr 1
  omega
section NUC
variable {F r f e : Nat} {σ : St} {L : List Int32}
theorem f93_16_r (hr : isRw r) (h : rowL σ r L) (hl : L.length ≤ capR r) (he : e ≤ L.length) (hf : f ≤ e) : ∀ (m n p : Nat), p ≤ e - f → skp isBl (stre L f (e - f)) p = p + m → f93_16 F (n + m + 1) r (Int32.ofNat e) (Int32.ofNat (f + p)) σ = oI (Int32.ofNat (f + p + m)) σ := by
  have hc := capR_le r
  have sl : (stre L f (e - f)).length = e - f := stre_len (by omega)
  intro m
  induction m with
  | zero =>
    intro n p hp hs
    rw [f93_16.eq_2]
    by_cases hl2 : f + p < e
    · have h1 : isBl ((stre L f (e - f)).getD p 0) = false := by
        rcases skp_cases (b := stre L f (e - f)) (p := p) isBl_0 with ⟨h1, h2, h3⟩ | ⟨h1, h2⟩
        · have h4 := skp_ge (f := isBl) (b := stre L f (e - f)) (p := p + 1)
          omega
        · exact h1
      rw [stre_at (by omega)] at h1
      have i1 : inB (Int32.ofNat (f + p)) (capR r) := oN_rg (by omega) (by omega)
      have e1 : (Int32.ofNat (f + p)).toNatClampNeg = f + p := oN_n (by omega)
      rw [if_pos ((oN_lt (by omega) (by omega)).mpr hl2), (rw_f hr).1, (rw_f hr).2]
      simp only [if_pos i1, ltE, e1, h.2 (f + p) (by omega)]
      simp only [isBl, Bool.or_eq_false_iff, decide_eq_false_iff_not] at h1
      rw [if_neg h1.2, if_neg h1.1]
      rfl
    · rw [if_neg (fun hh => hl2 ((oN_lt (by omega) (by omega)).mp hh))]
      rfl
  | succ m ih =>
    intro n p hp hs
    rcases skp_cases (b := stre L f (e - f)) (p := p) isBl_0 with ⟨h1, h2, h3⟩ | ⟨h1, h2⟩
    · rw [stre_at (by omega)] at h1
      have i1 : inB (Int32.ofNat (f + p)) (capR r) := oN_rg (by omega) (by omega)
      have e1 : (Int32.ofNat (f + p)).toNatClampNeg = f + p := oN_n (by omega)
      rw [show n + (m + 1) + 1 = (n + m + 1) + 1 by omega, f93_16.eq_2, if_pos ((oN_lt (by omega) (by omega)).mpr (by omega)), (rw_f hr).1, (rw_f hr).2]
      unfold f93_43
      simp only [if_pos i1, ltE, e1, h.2 (f + p) (by omega)]
      simp only [isBl, Bool.or_eq_true, decide_eq_true_eq] at h1
      have i2 := ih n (p + 1) (by omega) (by omega)
      rw [show f + (p + 1) + m = f + p + (m + 1) by omega, show f + (p + 1) = f + p + 1 by omega, ← oN_p1] at i2
      by_cases h6 : L.getD (f + p) 0 = 32
      · rw [if_pos h6, i2]
      · rw [if_neg h6, if_pos (h1.elim id (fun hh => absurd hh h6)), i2]
    · omega
theorem f93_r {p : Nat} (hF : 5000 ≤ F) (hr : isRw r) (h : rowL σ r L) (hl : L.length ≤ capR r) (he : e ≤ L.length) (hf : f ≤ e) (hp : p ≤ e - f) : f93 F r (Int32.ofNat (f + p)) (Int32.ofNat e) σ = oI (Int32.ofNat (f + skp isBl (stre L f (e - f)) p)) σ := by
  have hc := capR_le r
  have sl : (stre L f (e - f)).length = e - f := stre_len (by omega)
  have h1 := skp_ge (f := isBl) (b := stre L f (e - f)) (p := p)
  have h2 := skp_le (f := isBl) (b := stre L f (e - f)) (p := p) (by omega)
  obtain ⟨m, hm⟩ : ∃ m, skp isBl (stre L f (e - f)) p = p + m := ⟨skp isBl (stre L f (e - f)) p - p, by omega⟩
  have key : ∀ G, G = F → f93_16 G F r (Int32.ofNat e) (Int32.ofNat (f + p)) σ = oI (Int32.ofNat (f + p + m)) σ := by
    intro G hG
    have := f93_16_r (F := G) hr h hl he hf m (F - m - 1) p hp hm
    rw [show F - m - 1 + m + 1 = F by omega] at this
    exact this
  unfold f93
  rw [if_neg (oN_nn (by omega)), ltE, h.1, if_neg (fun hh => by have := (oN_lt (by omega) (by omega)).mp hh; omega), key F rfl, hm, Nat.add_assoc]
end NUC
