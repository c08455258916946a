/-! ROWS as lists -/
section GETD
variable {a b l : List Int32} {i j n : Nat}
theorem getD_app : (a ++ b).getD j 0 = if j < a.length then a.getD j 0 else b.getD (j - a.length) 0 := by
  rw [List.getD_eq_getElem?_getD, List.getD_eq_getElem?_getD, List.getD_eq_getElem?_getD, List.getElem?_append]
  split <;> rfl
theorem getD_take : (l.take n).getD j 0 = if j < n then l.getD j 0 else 0 := by
  rw [List.getD_eq_getElem?_getD, List.getD_eq_getElem?_getD, List.getElem?_take]
  split <;> rfl
theorem getD_drop : (l.drop n).getD j 0 = l.getD (n + j) 0 := by
  rw [List.getD_eq_getElem?_getD, List.getD_eq_getElem?_getD, List.getElem?_drop]
end GETD
def rowL (σ : St) (r : Nat) (l : List Int32) : Prop := σ.1 r 1 = Int32.ofNat l.length ∧ ∀ j, j < l.length → σ.1 (r + 1) j = l.getD j 0
theorem rowL_buf {σ : St} {b : List Int32} : rowL σ 1001 b ↔ bufC σ b := Iff.rfl
def isRw (r : Nat) : Prop := r = 1001 ∨ r = 1012 ∨ r = 1014 ∨ r = 1025 ∨ r = 1027
def capR (r : Nat) : Nat := if r = 1012 ∨ r = 1014 then 4096 else 120
theorem rw_f {r : Nat} (h : isRw r) : rfF r 0 = r + 1 ∧ laN (r + 1) = capR r := by
  rcases h with rfl | rfl | rfl | rfl | rfl <;> decide +kernel
theorem capR_le (r : Nat) : 120 ≤ capR r ∧ capR r ≤ 4096 := by
  unfold capR
  split <;> decide
/-- what a char of a row keeps of an int -/
def chN (c : Int32) : Int32 := vp_nar .char (((c : Int32).toUInt32 % 65536).toInt32)
theorem chN_id : ∀ k, k < 128 → chN (Int32.ofNat k) = Int32.ofNat k := by decide +kernel
section ROW
variable {F r : Nat} {l : List Int32} {σ τ : St}
theorem rowL_fr (h1 : τ.1 r = σ.1 r) (h2 : τ.1 (r + 1) = σ.1 (r + 1)) (h : rowL σ r l) : rowL τ r l := by
  refine ⟨?_, fun j hj => ?_⟩
  · rw [h1]
    exact h.1
  · rw [h2]
    exact h.2 j hj
theorem f89_r {m : Nat} (hr : isRw r) (h : rowL σ r l) (hl : l.length ≤ capR r) (hm : m ≤ 100000) : f89 F r (Int32.ofNat m) σ = oI (b2i (decide (l.length + m ≤ capR r))) σ := by
  have hc := capR_le r
  unfold f89
  simp only [lt]
  rw [(rw_f hr).1, (rw_f hr).2, h.1, oN_ad]
  by_cases hk : l.length + m ≤ capR r
  · rw [if_neg (fun hh => by have := (oN_lt (by omega) (by omega)).mp hh; omega), decide_eq_true hk]
    rfl
  · rw [if_pos ((oN_lt (by omega) (by omega)).mpr (by omega)), decide_eq_false hk]
    rfl
def rAdd (σ : St) (r n : Nat) (c : Int32) : St := uI (uI σ (r + 1) n (chN c)) r 1 (Int32.ofNat (n + 1))
theorem rAdd_row {c : Int32} (h : rowL σ r l) : rowL (rAdd σ r l.length c) r (l ++ [chN c]) := by
  refine ⟨?_, fun j hj => ?_⟩
  · unfold rAdd
    rw [u_eq, List.length_append]
    rfl
  · unfold rAdd
    rw [u_ne (by omega), u_at, getD_app]
    rw [List.length_append, List.length_cons, List.length_nil] at hj
    by_cases hk : j = l.length
    · rw [if_pos hk, if_neg (by omega), hk, Nat.sub_self]
      rfl
    · rw [if_neg hk, if_pos (by omega)]
      exact h.2 j (by omega)
theorem rAdd_oth {n a : Nat} {c : Int32} (h1 : a ≠ r) (h2 : a ≠ r + 1) : (rAdd σ r n c).1 a = σ.1 a := by
  unfold rAdd
  rw [u_ne h1, u_ne h2]
theorem rAdd_2 {n : Nat} {c : Int32} : (rAdd σ r n c).2 = σ.2 := rfl
theorem f90_r {c : Int32} (hr : isRw r) (h : rowL σ r l) (hl : l.length < capR r) : f90 F r c σ = oV (rAdd σ r l.length c) := by
  have hc := capR_le r
  have e1 : f89 F r 1 σ = oI (b2i (decide (l.length + 1 ≤ capR r))) σ := f89_r (m := 1) hr h (by omega) (by decide)
  unfold f90
  rw [e1, cIo, decide_eq_true (show l.length + 1 ≤ capR r by omega), if_neg (by decide)]
  simp only [lt]
  rw [(rw_f hr).1, (rw_f hr).2, h.1, if_pos (oN_rg hl (by omega))]
  simp only [oN_n (show l.length < 2147483648 by omega)]
  rw [u_ne (by omega), h.1, oN_p1]
  rfl
theorem f91_r : f91 F r σ = oV (uI σ r 1 0) := rfl
theorem rowL_clear : rowL (uI σ r 1 0) r [] := ⟨u_eq, fun j hj => by simp at hj⟩
/-- a stretch of another row put in -/
def rPut (σ : St) (r r2 p q n len : Nat) : St := uI (uF (uF σ (r + 1) (va_cpy (σ.1 (r + 1)) (σ.1 (r + 1)) p (p + n) (len - p))) (r + 1) (va_cpy ((uF σ (r + 1) (va_cpy (σ.1 (r + 1)) (σ.1 (r + 1)) p (p + n) (len - p))).1 (r2 + 1)) ((uF σ (r + 1) (va_cpy (σ.1 (r + 1)) (σ.1 (r + 1)) p (p + n) (len - p))).1 (r + 1)) q p n)) r 1 (Int32.ofNat (len + n))
theorem f95_r {r2 p q n : Nat} {l2 : List Int32} (hr : isRw r) (hr2 : isRw r2) (h : rowL σ r l) (h2 : rowL σ r2 l2) (hl : l.length + n ≤ capR r) (hp : p ≤ l.length) (hq : q + n ≤ l2.length) (hl2 : l2.length ≤ capR r2) : f95 F r (Int32.ofNat p) r2 (Int32.ofNat q) (Int32.ofNat n) σ = oV (rPut σ r r2 p q n l.length) := by
  have hc := capR_le r
  have hc2 := capR_le r2
  unfold f95
  rw [if_neg (oN_nn (by omega)), f89_r hr h (by omega) (by omega), cIo, decide_eq_true hl, if_neg (by decide), if_neg (oN_nn (by omega))]
  simp only [lt]
  rw [h.1, if_neg (fun hh => by have := (oN_lt (by omega) (by omega)).mp hh; omega), if_neg (oN_nn (by omega)), h2.1, oN_ad, if_neg (fun hh => by have := (oN_lt (by omega) (by omega)).mp hh; omega), oN_sb hp, oN_ad, (rw_f hr).1, (rw_f hr2).1, (rw_f hr).2, (rw_f hr2).2]
  have q1 := oN_n (show p < 2147483648 by omega)
  have q2 := oN_n (show p + n < 2147483648 by omega)
  have q3 := oN_n (show l.length - p < 2147483648 by omega)
  have q4 := oN_n (show q < 2147483648 by omega)
  have q5 := oN_n (show n < 2147483648 by omega)
  have z1 := oN_nn (show p < 2147483648 by omega)
  have z2 := oN_nn (show p + n < 2147483648 by omega)
  have z3 := oN_nn (show l.length - p < 2147483648 by omega)
  have z4 := oN_nn (show q < 2147483648 by omega)
  have z5 := oN_nn (show n < 2147483648 by omega)
  rw [if_pos ⟨fun hh => hh.elim z1 (fun hh => hh.elim z2 z3), by omega, by omega⟩, if_pos ⟨fun hh => hh.elim z4 (fun hh => hh.elim z1 z5), by omega, by omega⟩]
  simp only [q1, q2, q3, q4, q5]
  unfold rPut
  have e1 : ∀ (τ : St) (f : Nat → Int32), (uF τ (r + 1) f).1 r = τ.1 r := fun τ f => by simp [uF]
  rw [e1, e1, h.1, oN_ad]
theorem uF_ne {a b : Nat} {f : Nat → Int32} (h : b ≠ a) : (uF σ a f).1 b = σ.1 b := by simp [uF, h]
theorem uF_eq {a : Nat} {f : Nat → Int32} : (uF σ a f).1 a = f := by simp [uF]
theorem rPut_oth {r2 p q n len a : Nat} (h1 : a ≠ r) (h2 : a ≠ r + 1) : (rPut σ r r2 p q n len).1 a = σ.1 a := by
  unfold rPut
  rw [u_ne h1, uF_ne h2, uF_ne h2]
theorem rPut_2 {r2 p q n len : Nat} : (rPut σ r r2 p q n len).2 = σ.2 := rfl
theorem rPut_row {r2 p q n : Nat} {l2 : List Int32} (hne : r2 ≠ r) (h : rowL σ r l) (h2 : rowL σ r2 l2) (hp : p ≤ l.length) (hq : q + n ≤ l2.length) : rowL (rPut σ r r2 p q n l.length) r (l.take p ++ (l2.drop q).take n ++ l.drop p) := by
  have w1 : (l.take p).length = p := by rw [List.length_take]; omega
  have w2 : ((l2.drop q).take n).length = n := by rw [List.length_take, List.length_drop]; omega
  have w3 : (l.drop p).length = l.length - p := List.length_drop
  refine ⟨?_, fun j hj => ?_⟩
  · unfold rPut
    rw [u_eq, List.length_append, List.length_append, w1, w2, w3, show p + n + (l.length - p) = l.length + n by omega]
  · rw [List.length_append, List.length_append, w1, w2, w3] at hj
    unfold rPut
    rw [u_ne (by omega), uF_eq, uF_ne (by omega), uF_eq]
    unfold va_cpy
    rw [getD_app, getD_app, List.length_append, w1, w2, getD_take, getD_take, getD_drop, getD_drop]
    by_cases c1 : j < p
    · rw [if_neg (by omega), if_neg (by omega), if_pos (by omega), if_pos c1, if_pos c1]
      exact h.2 j (by omega)
    · by_cases c2 : j < p + n
      · rw [if_pos ⟨by omega, c2⟩, if_pos (by omega), if_neg c1, if_pos (by omega)]
        exact h2.2 _ (by omega)
      · rw [if_neg (by omega), if_pos ⟨by omega, by omega⟩, if_neg (by omega), h.2 _ (by omega), show p + (j - (p + n)) = p + (j - (p + n)) from rfl]
end ROW
