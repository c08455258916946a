/-! SETS: built bit by bit -/
def one (p : Nat) : Int32 := 1 <<< (Int32.ofNat p &&& 31)
theorem amt_l : ∀ p, p < 32 → ((1 : Int32) <<< (Int32.ofNat p &&& 31)).toBitVec = 1#32 <<< p := by decide +kernel
theorem bt_ge {x : Int32} {j : Nat} (h : 32 ≤ j) : bt x j = false := by
  unfold bt
  exact BitVec.getLsbD_of_ge _ _ h
theorem bt_one {p j : Nat} (hp : p < 32) : bt (one p) j = decide (j = p) := by
  unfold bt one
  rw [amt_l p hp, BitVec.getLsbD_shiftLeft, BitVec.getLsbD_one]
  by_cases c : j = p
  · subst c
    simp [hp]
  · rw [decide_eq_false c]
    by_cases c2 : j < p
    · simp [c2]
    · have : ¬ j - p = 0 := by omega
      simp [this]
theorem bt_or {x y : Int32} {j : Nat} : bt (x ||| y) j = (bt x j || bt y j) := by
  unfold bt
  rw [Int32.toBitVec_or, BitVec.getLsbD_or]
theorem bt_ext {x y : Int32} (h : ∀ j, j < 32 → bt x j = bt y j) : x = y := by
  rw [← Int32.toBitVec_inj]
  apply BitVec.eq_of_getLsbD_eq
  intro i hi
  exact h i hi
/-- the set of the nodes below n that f holds of -/
def mkS (f : Nat → Bool) : Nat → Int32
  | 0 => 0
  | n + 1 => if f n = true then mkS f n ||| one n else mkS f n
theorem bt_mk {f : Nat → Bool} {j : Nat} : ∀ n, n ≤ 32 → bt (mkS f n) j = (decide (j < n) && f j)
  | 0, _ => by
    unfold mkS
    rw [bt_0, decide_eq_false (by omega)]
    rfl
  | n + 1, hn => by
    have ih := bt_mk (f := f) (j := j) n (by omega)
    unfold mkS
    by_cases c : f n = true
    · rw [if_pos c, bt_or, ih, bt_one (by omega)]
      by_cases c2 : j = n
      · subst c2
        rw [c, decide_eq_true rfl, decide_eq_true (show j < j + 1 by omega), Bool.or_true]
        rfl
      · rw [decide_eq_false c2, Bool.or_false, decide_eq_decide.mpr (show j < n ↔ j < n + 1 by omega)]
    · rw [if_neg c, ih]
      by_cases c2 : j = n
      · subst c2
        rw [Bool.not_eq_true] at c
        rw [c, Bool.and_false, Bool.and_false]
      · rw [decide_eq_decide.mpr (show j < n ↔ j < n + 1 by omega)]
theorem mk_cong {f g : Nat → Bool} : ∀ n, (∀ j, j < n → f j = g j) → mkS f n = mkS g n
  | 0, _ => rfl
  | n + 1, h => by
    unfold mkS
    rw [mk_cong n (fun j hj => h j (by omega)), h n (by omega)]
/-- how many of the first n bits -/
def cntB (x : Int32) : Nat → Nat
  | 0 => 0
  | n + 1 => cntB x n + (if bt x n = true then 1 else 0)
theorem cntB_le {x : Int32} : ∀ n, cntB x n ≤ n
  | 0 => Nat.le_refl _
  | n + 1 => by
    have := cntB_le (x := x) n
    unfold cntB
    split <;> omega
theorem cntB_add {x : Int32} {n : Nat} : ∀ m, (∀ j, n ≤ j → j < n + m → bt x j = false) → cntB x (n + m) = cntB x n
  | 0, _ => rfl
  | m + 1, h => by
    show cntB x (n + m) + (if bt x (n + m) = true then 1 else 0) = _
    rw [cntB_add m (fun j h1 h2 => h j h1 (by omega)), h (n + m) (by omega) (by omega)]
    rfl
/-- the reference's bits -/
theorem bit_m {x : Int32} {j : Nat} (hj : j < 32) : ((x >>> (Int32.ofNat j &&& 31)) &&& 1) = if bt x j = true then 1 else 0 := by
  by_cases h : bt x j = true
  · rw [if_pos h]
    exact (bt_m hj).mpr h
  · rw [if_neg h]
    have e : ((x >>> (Int32.ofNat j &&& 31 : Int32)) &&& 1) = 1 ∨ ((x >>> (Int32.ofNat j &&& 31 : Int32)) &&& 1) = 0 := by
      generalize (x >>> (Int32.ofNat j &&& 31 : Int32)) = y
      by_cases c : y.toBitVec.getLsbD 0 = true
      · exact Or.inl ((i32_and1 y).mpr c)
      · refine Or.inr ?_
        rw [← Int32.toBitVec_inj, Int32.toBitVec_and]
        show y.toBitVec &&& 1#32 = 0#32
        apply BitVec.eq_of_getLsbD_eq
        intro i hi
        by_cases c2 : i = 0
        · rw [Bool.not_eq_true] at c
          rw [c2, BitVec.getLsbD_and, c]
          rfl
        · simp [c2]
    exact e.elim (fun g => absurd ((bt_m hj).mp g) h) id
theorem f234_e {F : Nat} {x : Int32} {σ : St} (hF : 500 ≤ F) : f234 F x σ = oI (Int32.ofNat (cntB x 31)) σ := by
  have key : ∀ (m k n : Nat), n + m = 31 → f234_4 F (k + m + 1) x (Int32.ofNat (cntB x n)) (Int32.ofNat n) σ = oI (Int32.ofNat (cntB x 31)) σ := by
    intro m
    induction m with
    | zero =>
      intro k n hn
      have e : n = 31 := by omega
      subst e
      rw [f234_4.eq_2, if_neg (by decide)]
    | succ m ih =>
      intro k n hn
      rw [show k + (m + 1) + 1 = (k + m + 1) + 1 by omega, f234_4.eq_2, if_pos (show Int32.ofNat n < 31 from (oN_lt (q := 31) (by omega) (by decide)).mpr (by omega)), ltE, bit_m (by omega), oN_p1]
      have e : Int32.ofNat (cntB x n) + (if bt x n = true then 1 else 0) = Int32.ofNat (cntB x (n + 1)) := by
        show _ = Int32.ofNat (cntB x n + (if bt x n = true then 1 else 0))
        by_cases c : bt x n = true
        · rw [if_pos c, if_pos c, oN_p1]
        · rw [if_neg c, if_neg c, Nat.add_zero]
          exact Int32.add_zero _
      rw [e]
      exact ih k (n + 1) (by omega)
  have := key 31 (F - 32) 0 (by omega)
  rw [show F - 32 + 31 + 1 = F by omega] at this
  exact this
