/-! ints -/
section INT
variable {x y : Int32} {n : Nat}
theorem i32_add (h1 : -2147483648 ≤ x.toInt + y.toInt) (h2 : x.toInt + y.toInt < 2147483648) : (x + y).toInt = x.toInt + y.toInt := by
  rw [Int32.toInt_add]
  apply Int.bmod_eq_of_le <;> omega
theorem tcn (x : Int32) : x.toNatClampNeg = x.toInt.toNat := rfl
theorem inB_of (h1 : 0 ≤ x.toInt) (h2 : x.toInt < n) : inB x n := by
  intro hh
  rcases hh with hh | hh
  · rw [Int32.lt_iff_toInt_lt] at hh
    have h3 : (0 : Int32).toInt = 0 := rfl
    omega
  · rw [tcn] at hh
    omega
end INT
/-! type: eight bytes -/
def bAt (e : Int64) (s : Int32) : Int32 := ((((e : Int64).toUInt64 >>> ((s : Int32).toInt64.toUInt64 &&& Int64.toUInt64 63)).toInt64 : Int64).toInt32) &&& 255
def sh (k : Nat) : Int32 := Int32.ofInt (8 * k - 8)
theorem sh_sub : ∀ k, k < 8 → sh (k + 1) + Int32.ofInt (-8) = sh k := by decide +kernel
theorem sh_nn : ∀ k, k < 8 → ¬ sh (k + 1) < 0 := by decide +kernel
theorem sh_0 : sh 0 < 0 := by decide +kernel
theorem sh_8 : sh 8 = 56 := by decide +kernel
abbrev okc (c : Int32) : Prop := c = 0 ∨ c = 10 ∨ (¬ c < 32 ∧ ¬ 126 < c)
def allOk (e : Int64) : Nat → Bool
  | 0 => true
  | k + 1 => decide (okc (bAt e (sh (k + 1)))) && allOk e k
def cnt (e : Int64) : Nat → Nat
  | 0 => 0
  | k + 1 => (if bAt e (sh (k + 1)) = 0 then 0 else 1) + cnt e k
theorem cnt_le (e : Int64) : ∀ k, cnt e k ≤ k
  | 0 => Nat.le_refl _
  | k + 1 => by
    have h := cnt_le e k
    unfold cnt
    split <;> omega
theorem oN_0 (m : Int32) : m + Int32.ofNat 0 = m := Int32.add_zero m
theorem oN_1 (m : Int32) (b : Nat) : m + 1 + Int32.ofNat b = m + Int32.ofNat (1 + b) := by
  rw [Int32.ofNat_add, Int32.add_assoc]
  rfl
theorem cIo {x : Int32} {σ : St} {kk : Int32 → St → Rs} : cI (oI x σ) kk = kk x σ := rfl
theorem cVo {σ : St} {kk : St → Rs} : cV (oV σ) kk = kk σ := rfl
theorem f11_b {F : Nat} {e : Int64} {s : Int32} {σ : St} : f11 F e s σ = oI (bAt e s) σ := rfl
theorem f12_b {F : Nat} {c : Int32} {σ : St} (h0 : ¬ c = 0) : f12 F c σ = if okc c then oI 1 σ else oI 0 σ := by
  unfold f12
  by_cases h1 : c = 10
  · rw [if_pos h1, if_pos (Or.inr (Or.inl h1))]
  · rw [if_neg h1]
    by_cases h2 : c < 32
    · rw [if_pos h2, if_neg (fun hh => hh.elim (fun hh => h0 hh) (fun hh => hh.elim (fun hh => h1 hh) (fun hh => hh.1 h2)))]
    · rw [if_neg h2]
      by_cases h3 : 126 < c
      · rw [if_pos h3, if_neg (fun hh => hh.elim (fun hh => h0 hh) (fun hh => hh.elim (fun hh => h1 hh) (fun hh => hh.2 h3)))]
      · rw [if_neg h3, if_pos (Or.inr (Or.inr ⟨h2, h3⟩))]
def T10 (F : Nat) (e : Int64) (m : Int32) (σ : St) : Rs := cI (f89 F 1001 m σ) fun c τ => if c = 0 then oI 0 τ else f10_70 F F e 56 τ
theorem f10_6_z {F n : Nat} {e : Int64} {m s : Int32} {σ : St} (hs : s < 0) : f10_6 F (n + 1) e m s σ = T10 F e m σ := by
  rw [f10_6.eq_2, if_pos hs]
  rfl
theorem f10_6_s {F n : Nat} {e : Int64} {m s : Int32} {σ : St} (hs : ¬ s < 0) : f10_6 F (n + 1) e m s σ = if bAt e s = 0 then f10_6 F n e (m + 0) (s + Int32.ofInt (-8)) σ else if okc (bAt e s) then f10_6 F n e (m + 1) (s + Int32.ofInt (-8)) σ else oI 0 σ := by
  rw [f10_6.eq_2, if_neg hs, f11_b, cIo]
  generalize bAt e s = c
  by_cases h0 : c = 0
  · rw [if_pos h0, if_pos h0]
    unfold f10_34
    rw [if_pos h0]
    rfl
  · rw [if_neg h0, if_neg h0, f12_b h0]
    by_cases h1 : okc c
    · rw [if_pos h1, if_pos h1, cIo, if_neg (by decide)]
      unfold f10_34
      rw [if_neg h0]
      rfl
    · rw [if_neg h1, if_neg h1, cIo, if_pos rfl]
theorem t10_6 (F : Nat) (e : Int64) (σ : St) : ∀ (k n : Nat) (m : Int32), k ≤ 8 → f10_6 F (n + k + 1) e m (sh k) σ = if allOk e k = true then T10 F e (m + Int32.ofNat (cnt e k)) σ else oI 0 σ := by
  intro k
  induction k with
  | zero =>
    intro n m _
    rw [f10_6_z sh_0, if_pos (show allOk e 0 = true from rfl), show cnt e 0 = 0 from rfl, oN_0]
  | succ k ih =>
    intro n m hk
    rw [show n + (k + 1) + 1 = (n + k + 1) + 1 by omega, f10_6_s (sh_nn k (by omega)), sh_sub k (by omega), ih _ _ (by omega), ih _ _ (by omega)]
    have c1 : cnt e (k + 1) = (if bAt e (sh (k + 1)) = 0 then 0 else 1) + cnt e k := rfl
    have c2 : allOk e (k + 1) = (decide (okc (bAt e (sh (k + 1)))) && allOk e k) := rfl
    rw [c1, c2]
    by_cases h0 : bAt e (sh (k + 1)) = 0
    · rw [if_pos h0, if_pos h0, decide_eq_true (show okc (bAt e (sh (k + 1))) from Or.inl h0), Bool.true_and, Nat.zero_add, Int32.add_zero]
    · rw [if_neg h0, if_neg h0, oN_1]
      by_cases h1 : okc (bAt e (sh (k + 1)))
      · rw [if_pos h1, decide_eq_true h1, Bool.true_and]
      · rw [if_neg h1, decide_eq_false h1, Bool.false_and, if_neg Bool.false_ne_true]
def T14 (F : Nat) (e : Int64) (m : Int32) (σ : St) : Rs := lt (σ.1 1315 1) fun c2 => if 120 < c2 + m then oI 0 σ else f145_109 F F e 56 σ
theorem f145_14_z {F n : Nat} {e : Int64} {m g s : Int32} {σ : St} (hs : s < 0) : f145_14 F (n + 1) e m g s σ = if g = 0 then oI 0 σ else T14 F e m σ := by
  rw [f145_14.eq_2, if_pos hs]
  rfl
theorem f145_14_s {F n : Nat} {e : Int64} {m g s : Int32} {σ : St} (hs : ¬ s < 0) : f145_14 F (n + 1) e m g s σ = f145_14 F n e (if bAt e s = 0 then m else m + 1) (if g = 0 ∨ ¬ okc (bAt e s) then 0 else 1) (s + Int32.ofInt (-8)) σ := by
  rw [f145_14.eq_2, if_neg hs]
  show (lt (bAt e s) _) = _
  unfold lt
  generalize bAt e s = c
  dsimp only
  unfold f145_65 f145_61 f145_66 f145_80
  by_cases h0 : c = 0
  · rw [if_pos h0, if_pos h0, if_pos h0, if_pos h0]
    by_cases hg : g = 0
    · rw [if_pos hg, if_pos (Or.inl hg)]
    · rw [if_neg hg, if_neg (fun hh => hh.elim (fun hh => hg hh) (fun hh => hh (Or.inl h0)))]
  · rw [if_neg h0, if_neg h0, if_neg h0, if_neg h0]
    by_cases hg : g = 0
    · rw [if_pos hg, if_pos (Or.inl hg)]
    · rw [if_neg hg]
      by_cases h1 : c = 10
      · rw [if_pos h1, if_neg (fun hh => hh.elim (fun hh => hg hh) (fun hh => hh (Or.inr (Or.inl h1))))]
      · rw [if_neg h1]
        by_cases h2 : c < 32
        · rw [if_pos h2, if_pos (Or.inr (fun hh => hh.elim (fun hh => h0 hh) (fun hh => hh.elim (fun hh => h1 hh) (fun hh => hh.1 h2))))]
        · rw [if_neg h2]
          by_cases h3 : 126 < c
          · rw [if_pos h3, if_pos (Or.inr (fun hh => hh.elim (fun hh => h0 hh) (fun hh => hh.elim (fun hh => h1 hh) (fun hh => hh.2 h3))))]
          · rw [if_neg h3, if_neg (fun hh => hh.elim (fun hh => hg hh) (fun hh => hh (Or.inr (Or.inr ⟨h2, h3⟩))))]
theorem t145_14 (F : Nat) (e : Int64) (σ : St) : ∀ (k n : Nat) (m g : Int32), k ≤ 8 → f145_14 F (n + k + 1) e m g (sh k) σ = if g = 0 ∨ allOk e k = false then oI 0 σ else T14 F e (m + Int32.ofNat (cnt e k)) σ := by
  intro k
  induction k with
  | zero =>
    intro n m g _
    rw [f145_14_z sh_0, show cnt e 0 = 0 from rfl, oN_0]
    by_cases hg : g = 0
    · rw [if_pos hg, if_pos (Or.inl hg)]
    · rw [if_neg hg, if_neg (fun hh => hh.elim (fun hh => hg hh) (fun hh => Bool.false_ne_true hh.symm))]
  | succ k ih =>
    intro n m g hk
    rw [show n + (k + 1) + 1 = (n + k + 1) + 1 by omega, f145_14_s (sh_nn k (by omega)), sh_sub k (by omega), ih _ _ _ (by omega)]
    have c1 : cnt e (k + 1) = (if bAt e (sh (k + 1)) = 0 then 0 else 1) + cnt e k := rfl
    have c2 : allOk e (k + 1) = (decide (okc (bAt e (sh (k + 1)))) && allOk e k) := rfl
    have c3 : (if bAt e (sh (k + 1)) = 0 then m else m + 1) + Int32.ofNat (cnt e k) = m + Int32.ofNat (cnt e (k + 1)) := by
      rw [c1]
      by_cases h0 : bAt e (sh (k + 1)) = 0
      · rw [if_pos h0, if_pos h0, Nat.zero_add]
      · rw [if_neg h0, if_neg h0, oN_1]
    rw [c3]
    by_cases hg : g = 0 ∨ ¬ okc (bAt e (sh (k + 1)))
    · rw [if_pos hg, if_pos (Or.inl rfl), if_pos]
      rcases hg with hg | hg
      · exact Or.inl hg
      · exact Or.inr (by rw [c2, decide_eq_false hg, Bool.false_and])
    · have h1 : okc (bAt e (sh (k + 1))) := Decidable.of_not_not (fun hh => hg (Or.inr hh))
      rw [if_neg hg, c2, decide_eq_true h1, Bool.true_and]
      by_cases h2 : allOk e k = false
      · rw [if_pos (Or.inr h2), if_pos (Or.inr h2)]
      · rw [if_neg (fun hh => hh.elim (fun hh => absurd hh (by decide)) (fun hh => h2 hh)), if_neg (fun hh => hh.elim (fun hh => hg (Or.inl hh)) (fun hh => h2 hh))]
/-! the store, read behind a change -/
section RD
variable {σ : St} {a b i j : Nat} {x : Int32}
theorem u_ne (h : b ≠ a) : (uI σ a j x).1 b = σ.1 b := by simp [uI, uF, h]
theorem u_eq : (uI σ a j x).1 a j = x := by simp [uI, uF, upd]
theorem u_at : (uI σ a j x).1 a i = if i = j then x else σ.1 a i := by simp [uI, uF, upd]
theorem u_X : (uI σ a j x).2.2.2 = σ.2.2.2 := rfl
end RD
def addR (σ : St) (c : Int32) : St := uI (uI σ 1002 (σ.1 1001 1).toNatClampNeg (vp_nar .char (((c : Int32).toUInt32 % 65536).toInt32))) 1001 1 (σ.1 1001 1 + 1)
def addM (σ : St) (c : Int32) : St := uI (uI σ 1316 (σ.1 1315 1).toNatClampNeg c) 1315 1 (σ.1 1315 1 + 1)
theorem cap_b : laN ((rfF 1001 0)) = 120 := by decide +kernel
theorem rf_b : rfF 1001 0 = 1002 := by decide +kernel
theorem addR_len {σ : St} {c : Int32} : (addR σ c).1 1001 1 = σ.1 1001 1 + 1 := u_eq
theorem addM_len {σ : St} {c : Int32} : (addM σ c).1 1315 1 = σ.1 1315 1 + 1 := u_eq
theorem addR_oth {σ : St} {c : Int32} {b : Nat} (h1 : b ≠ 1001) (h2 : b ≠ 1002) : (addR σ c).1 b = σ.1 b := by
  unfold addR
  rw [u_ne h1, u_ne h2]
theorem t89 {F : Nat} {σ : St} {m : Int32} : f89 F 1001 m σ = if 120 < σ.1 1001 1 + m then oI 0 σ else oI 1 σ := by
  unfold f89 lt
  rw [cap_b]
  rfl
theorem t90 {F : Nat} {σ : St} {c : Int32} (h0 : 0 ≤ (σ.1 1001 1).toInt) (h1 : (σ.1 1001 1).toInt < 120) : f90 F 1001 c σ = oV (addR σ c) := by
  have e1 : (1 : Int32).toInt = 1 := rfl
  have e2 : (120 : Int32).toInt = 120 := rfl
  have h2 : ¬ 120 < σ.1 1001 1 + 1 := by
    rw [Int32.lt_iff_toInt_lt, i32_add (by omega) (by omega)]
    omega
  unfold f90
  rw [t89, if_neg h2]
  simp only [cI, lt]
  rw [if_neg (by decide), cap_b, rf_b, if_pos (inB_of h0 h1), u_ne (by decide)]
  rfl
def addC (e : Int64) : Nat → St → St
  | 0, σ => σ
  | k + 1, σ => addC e k (if bAt e (sh (k + 1)) = 0 then σ else addR σ (bAt e (sh (k + 1))))
def addD (e : Int64) : Nat → St → St
  | 0, σ => σ
  | k + 1, σ => addD e k (if bAt e (sh (k + 1)) = 0 then σ else addM σ (bAt e (sh (k + 1))))
theorem addC_oth {e : Int64} {b : Nat} (h1 : b ≠ 1001) (h2 : b ≠ 1002) : ∀ (k : Nat) (σ : St), (addC e k σ).1 b = σ.1 b
  | 0, σ => rfl
  | k + 1, σ => by
    unfold addC
    rw [addC_oth h1 h2 k]
    split
    · rfl
    · exact addR_oth h1 h2
theorem addC_X {e : Int64} : ∀ (k : Nat) (σ : St), (addC e k σ).2 = σ.2
  | 0, σ => rfl
  | k + 1, σ => by
    unfold addC
    rw [addC_X k]
    split <;> rfl
theorem addD_X {e : Int64} : ∀ (k : Nat) (σ : St), (addD e k σ).2 = σ.2
  | 0, σ => rfl
  | k + 1, σ => by
    unfold addD
    rw [addD_X k]
    split <;> rfl
theorem f10_70_z {F n : Nat} {e : Int64} {s : Int32} {σ : St} (hs : s < 0) : f10_70 F (n + 1) e s σ = oI 1 σ := by
  rw [f10_70.eq_2, if_pos hs]
theorem f10_70_s {F n : Nat} {e : Int64} {s : Int32} {σ : St} (hs : ¬ s < 0) (h0 : 0 ≤ (σ.1 1001 1).toInt) (h1 : bAt e s = 0 ∨ (σ.1 1001 1).toInt < 120) : f10_70 F (n + 1) e s σ = f10_70 F n e (s + Int32.ofInt (-8)) (if bAt e s = 0 then σ else addR σ (bAt e s)) := by
  rw [f10_70.eq_2, if_neg hs, f11_b, cIo]
  unfold f10_97
  by_cases hb : bAt e s = 0
  · rw [if_pos hb, if_pos hb]
  · rw [if_neg hb, if_neg hb, t90 h0 (h1.elim (fun h1 => absurd h1 hb) (fun h1 => h1)), cVo]
theorem t10_70 (F : Nat) (e : Int64) : ∀ (k n : Nat) (σ : St), k ≤ 8 → 0 ≤ (σ.1 1001 1).toInt → (σ.1 1001 1).toInt + cnt e k ≤ 120 → f10_70 F (n + k + 1) e (sh k) σ = oI 1 (addC e k σ) := by
  intro k
  induction k with
  | zero =>
    intro n σ _ _ _
    rw [f10_70_z sh_0]
    rfl
  | succ k ih =>
    intro n σ hk h0 h1
    have c1 : cnt e (k + 1) = (if bAt e (sh (k + 1)) = 0 then 0 else 1) + cnt e k := rfl
    have c2 : addC e (k + 1) σ = addC e k (if bAt e (sh (k + 1)) = 0 then σ else addR σ (bAt e (sh (k + 1)))) := rfl
    rw [c1] at h1
    rw [c2]
    by_cases hb : bAt e (sh (k + 1)) = 0
    · rw [if_pos hb] at h1
      rw [show n + (k + 1) + 1 = (n + k + 1) + 1 by omega, f10_70_s (sh_nn k (by omega)) h0 (Or.inl hb), sh_sub k (by omega), if_pos hb]
      exact ih n σ (by omega) h0 (by omega)
    · rw [if_neg hb] at h1
      rw [show n + (k + 1) + 1 = (n + k + 1) + 1 by omega, f10_70_s (sh_nn k (by omega)) h0 (Or.inr (by omega)), sh_sub k (by omega), if_neg hb]
      have e1 : (1 : Int32).toInt = 1 := rfl
      have h2 : ((addR σ (bAt e (sh (k + 1)))).1 1001 1).toInt = (σ.1 1001 1).toInt + 1 := by
        rw [addR_len, i32_add (by omega) (by omega), e1]
      exact ih n _ (by omega) (by omega) (by omega)
theorem f145_109_z {F n : Nat} {e : Int64} {s : Int32} {σ : St} (hs : s < 0) : f145_109 F (n + 1) e s σ = oI 1 σ := by
  rw [f145_109.eq_2, if_pos hs]
theorem f145_109_s {F n : Nat} {e : Int64} {s : Int32} {σ : St} (hs : ¬ s < 0) (h0 : 0 ≤ (σ.1 1315 1).toInt) (h1 : bAt e s = 0 ∨ (σ.1 1315 1).toInt < 120) : f145_109 F (n + 1) e s σ = f145_109 F n e (s + Int32.ofInt (-8)) (if bAt e s = 0 then σ else addM σ (bAt e s)) := by
  rw [f145_109.eq_2, if_neg hs]
  show (lt (bAt e s) _) = _
  unfold lt f145_151
  generalize bAt e s = c at h1 ⊢
  dsimp only
  by_cases hb : c = 0
  · rw [if_pos hb, if_pos hb]
  · rw [if_neg hb, if_neg hb]
    have h2 : (σ.1 1315 1).toInt < 120 := h1.elim (fun h1 => absurd h1 hb) (fun h1 => h1)
    rw [if_pos (inB_of h0 (by omega)), u_ne (by decide)]
    rfl
theorem t145_109 (F : Nat) (e : Int64) : ∀ (k n : Nat) (σ : St), k ≤ 8 → 0 ≤ (σ.1 1315 1).toInt → (σ.1 1315 1).toInt + cnt e k ≤ 120 → f145_109 F (n + k + 1) e (sh k) σ = oI 1 (addD e k σ) := by
  intro k
  induction k with
  | zero =>
    intro n σ _ _ _
    rw [f145_109_z sh_0]
    rfl
  | succ k ih =>
    intro n σ hk h0 h1
    have c1 : cnt e (k + 1) = (if bAt e (sh (k + 1)) = 0 then 0 else 1) + cnt e k := rfl
    have c2 : addD e (k + 1) σ = addD e k (if bAt e (sh (k + 1)) = 0 then σ else addM σ (bAt e (sh (k + 1)))) := rfl
    rw [c1] at h1
    rw [c2]
    by_cases hb : bAt e (sh (k + 1)) = 0
    · rw [if_pos hb] at h1
      rw [show n + (k + 1) + 1 = (n + k + 1) + 1 by omega, f145_109_s (sh_nn k (by omega)) h0 (Or.inl hb), sh_sub k (by omega), if_pos hb]
      exact ih n σ (by omega) h0 (by omega)
    · rw [if_neg hb] at h1
      rw [show n + (k + 1) + 1 = (n + k + 1) + 1 by omega, f145_109_s (sh_nn k (by omega)) h0 (Or.inr (by omega)), sh_sub k (by omega), if_neg hb]
      have e1 : (1 : Int32).toInt = 1 := rfl
      have h2 : ((addM σ (bAt e (sh (k + 1)))).1 1315 1).toInt = (σ.1 1315 1).toInt + 1 := by
        rw [addM_len, i32_add (by omega) (by omega), e1]
      exact ih n _ (by omega) (by omega) (by omega)
theorem f10_e {F : Nat} {e : Int64} {σ : St} : f10 F e σ = f10_6 F F e 0 56 σ := rfl
theorem f145_e {F : Nat} {e : Int64} {σ : St} : f145 F e σ = f145_14 F F e 0 1 56 (uI σ 1315 0 0) := rfl
theorem T14_e {F : Nat} {e : Int64} {m c : Int32} {σ : St} (h : σ.1 1315 1 = c) : T14 F e m σ = if 120 < c + m then oI 0 σ else f145_109 F F e 56 σ := by
  subst h
  rfl
theorem type_ok {F : Nat} {e : Int64} {σ : St} (hF : 9 ≤ F) (h0 : 0 ≤ (σ.1 1001 1).toInt) (h1 : (σ.1 1001 1).toInt ≤ 120) (hm : σ.1 1315 1 = σ.1 1001 1) : ∃ b σ1 σ2, f10 F e σ = oI b σ1 ∧ f145 F e σ1 = oI b σ2 ∧ σ2.2.2.2 = σ.2.2.2 := by
  obtain ⟨n, rfl⟩ : ∃ n, F = n + 8 + 1 := ⟨F - 9, by omega⟩
  have a1 := t10_6 (n + 8 + 1) e σ 8 n 0 (Nat.le_refl _)
  have a2 := fun σ => t145_14 (n + 8 + 1) e σ 8 n 0 1 (Nat.le_refl _)
  rw [sh_8, Int32.zero_add] at a1
  simp only [sh_8, Int32.zero_add] at a2
  rw [f10_e, a1]
  by_cases hk : allOk e 8 = true
  · rw [if_pos hk]
    have hc := cnt_le e 8
    have e3 : (Int32.ofNat (cnt e 8)).toInt = cnt e 8 := Int32.toInt_ofNat_of_lt (by omega)
    have e2 : (120 : Int32).toInt = 120 := rfl
    have hk2 : ¬ ((1 : Int32) = 0 ∨ allOk e 8 = false) := fun hh => hh.elim (fun hh => absurd hh (by decide)) (fun hh => absurd hk (by rw [hh]; decide))
    unfold T10
    rw [t89]
    by_cases hl : 120 < σ.1 1001 1 + Int32.ofNat (cnt e 8)
    · rw [if_pos hl, cIo, if_pos rfl]
      refine ⟨0, σ, uI σ 1315 0 0, rfl, ?_, rfl⟩
      have o1 : (uI σ 1315 0 0).1 1315 1 = σ.1 1001 1 := by rw [u_at, if_neg (by decide), hm]
      rw [f145_e, a2, if_neg hk2, T14_e o1, if_pos hl]
    · rw [if_neg hl, cIo, if_neg (by decide)]
      have hl' := hl
      rw [Int32.lt_iff_toInt_lt, i32_add (by omega) (by omega), e2, e3] at hl'
      have b1 := t10_70 (n + 8 + 1) e 8 n σ (Nat.le_refl _) h0 (by omega)
      rw [sh_8] at b1
      have o1 : (uI (addC e 8 σ) 1315 0 0).1 1315 1 = σ.1 1001 1 := by
        rw [u_at, if_neg (by decide), addC_oth (by decide) (by decide), hm]
      have b2 := t145_109 (n + 8 + 1) e 8 n (uI (addC e 8 σ) 1315 0 0) (Nat.le_refl _) (by rw [o1]; exact h0) (by rw [o1]; omega)
      rw [sh_8] at b2
      refine ⟨1, addC e 8 σ, addD e 8 (uI (addC e 8 σ) 1315 0 0), b1, ?_, ?_⟩
      · rw [f145_e, a2, if_neg hk2, T14_e o1, if_neg hl, b2]
      · rw [addD_X]
        show (addC e 8 σ).2.2.2 = _
        rw [addC_X]
  · rw [if_neg hk]
    refine ⟨0, σ, uI σ 1315 0 0, rfl, ?_, rfl⟩
    rw [f145_e, a2, if_pos (Or.inr (by rw [← Bool.not_eq_true]; exact hk))]
