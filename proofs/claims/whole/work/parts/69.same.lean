/-! CUTTING a row, COMPARING stretches -/
section CUT
variable {F r : Nat} {l : List Int32} {σ : St}
def rCut (σ : St) (r p n len : Nat) : St := uI (uF σ (r + 1) (va_cpy (σ.1 (r + 1)) (σ.1 (r + 1)) (p + n) p (len - p - n))) r 1 (Int32.ofNat (len - n))
theorem f98_r {p n : Nat} (hr : isRw r) (h : rowL σ r l) (hl : l.length ≤ capR r) (hp : p + n ≤ l.length) : f98 F r (Int32.ofNat p) (Int32.ofNat n) σ = oV (rCut σ r p n l.length) := by
  have hc := capR_le r
  unfold f98
  rw [if_neg (oN_nn (by omega)), if_neg (oN_nn (by omega))]
  simp only [lt]
  rw [h.1, oN_ad, if_neg (fun hh => by have := (oN_lt (by omega) (by omega)).mp hh; omega), oN_sb (by omega), oN_sb (by omega), (rw_f hr).1, (rw_f hr).2]
  have q1 := oN_n (show p < 2147483648 by omega)
  have q2 := oN_n (show p + n < 2147483648 by omega)
  have q3 := oN_n (show l.length - p - n < 2147483648 by omega)
  have z1 := oN_nn (show p < 2147483648 by omega)
  have z2 := oN_nn (show p + n < 2147483648 by omega)
  have z3 := oN_nn (show l.length - p - n < 2147483648 by omega)
  rw [if_pos ⟨fun hh => hh.elim z2 (fun hh => hh.elim z1 z3), by omega, by omega⟩]
  simp only [q1, q2, q3]
  unfold rCut
  have e1 : ∀ (τ : St) (f : Nat → Int32), (uF τ (r + 1) f).1 r = τ.1 r := fun τ f => by simp [uF]
  rw [e1, h.1, oN_sb (by omega)]
theorem rCut_oth {p n len a : Nat} (h1 : a ≠ r) (h2 : a ≠ r + 1) : (rCut σ r p n len).1 a = σ.1 a := by
  unfold rCut
  rw [u_ne h1, uF_ne h2]
theorem rCut_2 {p n len : Nat} : (rCut σ r p n len).2 = σ.2 := rfl
theorem rCut_row {p n : Nat} (h : rowL σ r l) (hp : p + n ≤ l.length) : rowL (rCut σ r p n l.length) r (l.take p ++ l.drop (p + n)) := by
  have w1 : (l.take p).length = p := by rw [List.length_take]; omega
  have w3 : (l.drop (p + n)).length = l.length - (p + n) := List.length_drop
  refine ⟨?_, fun j hj => ?_⟩
  · unfold rCut
    rw [u_eq, List.length_append, w1, w3, show p + (l.length - (p + n)) = l.length - n by omega]
  · rw [List.length_append, w1, w3] at hj
    unfold rCut
    rw [u_ne (by omega), uF_eq]
    unfold va_cpy
    rw [getD_app, w1, getD_take, getD_drop]
    by_cases c1 : j < p
    · rw [if_neg (by omega), if_pos c1, if_pos c1]
      exact h.2 j (by omega)
    · rw [if_pos ⟨by omega, by omega⟩, if_neg c1]
      exact h.2 _ (by omega)
end CUT
/-- two stretches of n characters, from the j-th on -/
def sam (l : List Int32) (p : Nat) (l2 : List Int32) (q j : Nat) : Nat → Bool
  | 0 => true
  | m + 1 => decide (l.getD (p + j) 0 = l2.getD (q + j) 0) && sam l p l2 q (j + 1) m
theorem sam_refl {l : List Int32} {p : Nat} : ∀ m j, sam l p l p j m = true
  | 0, _ => rfl
  | m + 1, j => by
    unfold sam
    rw [decide_eq_true rfl, Bool.true_and]
    exact sam_refl m (j + 1)
section SAM
variable {F : Nat} {σ : St}
theorem f97_56_e {r r2 p q n : Nat} {l l2 : List Int32} (hr : isRw r) (hr2 : isRw r2) (h : rowL σ r l) (h2 : rowL σ r2 l2) (hl : l.length ≤ capR r) (hl2 : l2.length ≤ capR r2) (hp : p + n ≤ l.length) (hq : q + n ≤ l2.length) : ∀ (m k j : Nat), j + m = n → f97_56 F (k + m + 1) r (Int32.ofNat p) (Int32.ofNat n) r2 (Int32.ofNat q) (Int32.ofNat j) σ = oI (b2i (sam l p l2 q j m)) σ := by
  have hc := capR_le r
  have hc2 := capR_le r2
  intro m
  induction m with
  | zero =>
    intro k j hj
    rw [f97_56.eq_2, if_neg (fun hh => by have := (oN_lt (by omega) (by omega)).mp hh; omega)]
    rfl
  | succ m ih =>
    intro k j hj
    rw [show k + (m + 1) + 1 = (k + m + 1) + 1 by omega, f97_56.eq_2, if_pos ((oN_lt (by omega) (by omega)).mpr (by omega)), oN_ad, oN_ad, (rw_f hr).1, (rw_f hr2).1, (rw_f hr).2, (rw_f hr2).2, if_pos (oN_rg (by omega) (by omega))]
    simp only [lt]
    rw [if_pos (oN_rg (by omega) (by omega))]
    simp only [oN_n (show p + j < 2147483648 by omega), oN_n (show q + j < 2147483648 by omega), h.2 (p + j) (by omega), h2.2 (q + j) (by omega)]
    unfold sam
    by_cases he : l.getD (p + j) 0 = l2.getD (q + j) 0
    · rw [if_pos he, oN_p1, ih k (j + 1) (by omega), decide_eq_true he, Bool.true_and]
    · rw [if_neg he, decide_eq_false he, Bool.false_and]
      rfl
/-- isSame: stretches within their rows -/
theorem f97_e {r r2 p q n n2 : Nat} {l l2 : List Int32} (hF : 5000 ≤ F) (hr : isRw r) (hr2 : isRw r2) (h : rowL σ r l) (h2 : rowL σ r2 l2) (hl : l.length ≤ capR r) (hl2 : l2.length ≤ capR r2) (hp : p + n ≤ l.length) (hq : q + n2 ≤ l2.length) : f97 F r (Int32.ofNat p) (Int32.ofNat n) r2 (Int32.ofNat q) (Int32.ofNat n2) σ = oI (b2i (decide (n = n2) && sam l p l2 q 0 n)) σ := by
  have hc := capR_le r
  have hc2 := capR_le r2
  have hcp : aCp r2 r = true := by
    rcases hr with rfl | rfl | rfl | rfl | rfl <;> rcases hr2 with rfl | rfl | rfl | rfl | rfl <;> decide
  have main : q + n ≤ l2.length → f97_21 F r (Int32.ofNat p) (Int32.ofNat n) r2 (Int32.ofNat q) σ = oI (b2i (sam l p l2 q 0 n)) σ := by
    intro hq'
    unfold f97_21
    rw [if_neg (oN_nn (by omega))]
    simp only [lt]
    rw [h.1, oN_ad, if_neg (fun hh => by have := (oN_lt (by omega) (by omega)).mp hh; omega), if_neg (oN_nn (by omega)), h2.1, oN_ad, if_neg (fun hh => by have := (oN_lt (by omega) (by omega)).mp hh; omega)]
    obtain ⟨k, hk⟩ : ∃ k, F = k + n + 1 := ⟨F - n - 1, by omega⟩
    have e1 : ∀ G, G = k + n + 1 → f97_56 F G r (Int32.ofNat p) (Int32.ofNat n) r2 (Int32.ofNat q) (Int32.ofNat 0) σ = oI (b2i (sam l p l2 q 0 n)) σ := fun G hG => by
      rw [hG]
      exact f97_56_e hr hr2 h h2 hl hl2 hp hq' n k 0 (by omega)
    exact e1 F hk
  unfold f97
  by_cases hn : n = n2
  · subst hn
    rw [if_pos rfl, if_pos hcp, decide_eq_true rfl, Bool.true_and, main hq]
    by_cases hrr : r2 = r
    · rw [if_pos hrr]
      by_cases hpq : Int32.ofNat q = Int32.ofNat p
      · have hpq' := (oN_eq (by omega) (by omega)).mp hpq
        subst hpq'
        subst hrr
        have hll : sam l q l2 q 0 n = true := by
          have e2 : ∀ m j, j + m = n → sam l q l2 q j m = true := by
            intro m
            induction m with
            | zero => intro j _; rfl
            | succ m ih =>
              intro j hj
              unfold sam
              rw [← h.2 (q + j) (by omega), ← h2.2 (q + j) (by omega), decide_eq_true rfl, Bool.true_and]
              exact ih (j + 1) (by omega)
          exact e2 n 0 (by omega)
        rw [if_pos rfl, hll]
        rfl
      · rw [if_neg hpq]
    · rw [if_neg hrr]
  · rw [if_neg (fun hh => hn ((oN_eq (by omega) (by omega)).mp hh)), decide_eq_false hn, Bool.false_and]
    rfl
end SAM
/-! the reference's: two stretches of its buffer -/
section SAN
variable {F : Nat} {σ : St} {b : List Int32}
theorem f166_16_z {k p n q j : Nat} (hj : j ≤ 120) (hn : n ≤ 120) (g : Bool) (h : g = false ∨ n ≤ j) : f166_16 F (k + 1) (Int32.ofNat p) (Int32.ofNat n) (Int32.ofNat q) (b2i g) (Int32.ofNat j) σ = oI (b2i g) σ := by
  rw [f166_16.eq_2]
  by_cases hjn : j < n
  · rw [if_pos ((oN_lt (by omega) (by omega)).mpr hjn)]
    have hg : g = false := h.elim id (fun hh => by omega)
    rw [if_pos (b2i_0.mpr hg), if_pos (b2i_z g)]
  · rw [if_neg (fun hh => hjn ((oN_lt (by omega) (by omega)).mp hh)), if_pos (b2i_z g)]
theorem f166_16_s {k p n q j : Nat} (hB : bufM σ b) (hb : b.length ≤ 120) (hp : p + n ≤ b.length) (hq : q + n ≤ b.length) (hj : j < n) : f166_16 F (k + 1) (Int32.ofNat p) (Int32.ofNat n) (Int32.ofNat q) (b2i true) (Int32.ofNat j) σ = f166_16 F k (Int32.ofNat p) (Int32.ofNat n) (Int32.ofNat q) (b2i (decide (b.getD (p + j) 0 = b.getD (q + j) 0))) (Int32.ofNat (j + 1)) σ := by
  rw [f166_16.eq_2, if_pos ((oN_lt (by omega) (by omega)).mpr hj), if_neg (by decide), oN_ad, oN_ad, if_pos (oN_rg (by omega) (by decide))]
  simp only [lt, f166_53]
  rw [if_pos (oN_rg (by omega) (by decide))]
  simp only [oN_n (show p + j < 2147483648 by omega), oN_n (show q + j < 2147483648 by omega), hB.2 (p + j) (by omega), hB.2 (q + j) (by omega)]
  by_cases he : b.getD (p + j) 0 = b.getD (q + j) 0
  · rw [if_pos he, decide_eq_true he, oN_p1]
    rfl
  · rw [if_neg he, decide_eq_false he, oN_p1]
    rfl
theorem f166_16_e {p n q : Nat} (hB : bufM σ b) (hb : b.length ≤ 120) (hp : p + n ≤ b.length) (hq : q + n ≤ b.length) : ∀ (m k j : Nat), j + m = n → f166_16 F (k + m + 1) (Int32.ofNat p) (Int32.ofNat n) (Int32.ofNat q) (b2i true) (Int32.ofNat j) σ = oI (b2i (sam b p b q j m)) σ := by
  intro m
  induction m with
  | zero =>
    intro k j hj
    rw [f166_16_z (by omega) (by omega) true (Or.inr (by omega))]
    rfl
  | succ m ih =>
    intro k j hj
    rw [show k + (m + 1) + 1 = (k + m + 1) + 1 by omega, f166_16_s hB hb hp hq (by omega)]
    unfold sam
    by_cases he : b.getD (p + j) 0 = b.getD (q + j) 0
    · rw [decide_eq_true he, Bool.true_and]
      exact ih k (j + 1) (by omega)
    · rw [decide_eq_false he, Bool.false_and, f166_16_z (by omega) (by omega) false (Or.inl rfl)]
theorem f166_e {p n q n2 : Nat} (hF : 500 ≤ F) (hB : bufM σ b) (hb : b.length ≤ 120) (hp : p + n ≤ b.length) (hq : q + n2 ≤ b.length) : f166 F (Int32.ofNat p) (Int32.ofNat n) (Int32.ofNat q) (Int32.ofNat n2) σ = oI (b2i (decide (n = n2) && sam b p b q 0 n)) σ := by
  unfold f166 f166_11
  obtain ⟨k, hk⟩ : ∃ k, F = k + n + 1 := ⟨F - n - 1, by omega⟩
  by_cases hn : n = n2
  · subst hn
    rw [if_pos rfl, decide_eq_true rfl, Bool.true_and]
    have e1 : ∀ G, G = k + n + 1 → f166_16 F G (Int32.ofNat p) (Int32.ofNat n) (Int32.ofNat q) 1 0 σ = oI (b2i (sam b p b q 0 n)) σ := fun G hG => by
      rw [hG]
      exact f166_16_e hB hb hp hq n k 0 (by omega)
    exact e1 F hk
  · rw [if_neg (fun hh => hn ((oN_eq (by omega) (by omega)).mp hh)), decide_eq_false hn, Bool.false_and]
    obtain ⟨k', hk'⟩ : ∃ k, F = k + 1 := ⟨F - 1, by omega⟩
    have e1 : ∀ G, G = k' + 1 → f166_16 F G (Int32.ofNat p) (Int32.ofNat n) (Int32.ofNat q) 0 0 σ = oI (b2i false) σ := fun G hG => by
      rw [hG]
      exact f166_16_z (j := 0) (by omega) (by omega) false (Or.inl rfl)
    exact e1 F hk'
end SAN
