/-! NUMBERS COMPARED -/
abbrev Vl := Nat × Option Int × Int32 × List Int32
def nOk (o : Option Int) : Prop := ∀ v, o = some v → -1000000000000 < v ∧ v < 1000000000000
theorem i64_in {v : Int} (h : -1000000000000 < v ∧ v < 1000000000000) : (Int64.ofInt v).toInt = v := Int64.toInt_ofInt_of_le (by omega) (by omega)
theorem lg_eq (x y : Int64) : lg_cmp x y = 0 ↔ x = y := by
  unfold lg_cmp
  by_cases c : x > y
  · rw [if_pos c]
    constructor
    · intro g
      exact absurd g (by decide)
    · intro g
      subst g
      exact absurd c (Int64.lt_irrefl)
  · rw [if_neg c]
    by_cases c2 : x = y
    · rw [if_pos c2]
      exact ⟨fun _ => c2, fun _ => rfl⟩
    · rw [if_neg c2]
      exact ⟨fun g => absurd g (by decide), fun g => absurd g c2⟩
theorem i64_eq {v w : Int} (h : -1000000000000 < v ∧ v < 1000000000000) (g : -1000000000000 < w ∧ w < 1000000000000) : Int64.ofInt v = Int64.ofInt w ↔ v = w := by
  constructor
  · intro e
    have := congrArg Int64.toInt e
    rw [i64_in h, i64_in g] at this
    exact this
  · intro e
    rw [e]
theorem i64_lt {v w : Int} (h : -1000000000000 < v ∧ v < 1000000000000) (g : -1000000000000 < w ∧ w < 1000000000000) : Int64.ofInt v < Int64.ofInt w ↔ v < w := by
  rw [Int64.lt_iff_toInt_lt, i64_in h, i64_in g]
theorem eC_n {o : Option Int} (h : nOk o) : eC o = 4611686018427387904 ↔ o = none := by
  cases o with
  | none => exact ⟨fun _ => rfl, fun _ => rfl⟩
  | some v =>
    constructor
    · intro e
      have h1 := h v rfl
      have h2 : (Int64.ofInt v).toInt = (4611686018427387904 : Int64).toInt := congrArg Int64.toInt e
      rw [i64_in h1] at h2
      have h3 : (4611686018427387904 : Int64).toInt = 4611686018427387904 := by decide
      omega
    · intro e
      cases e
theorem eM_n {o : Option Int} (h : nOk o) : eM o = -1000000000000000 ↔ o = none := by
  cases o with
  | none => exact ⟨fun _ => rfl, fun _ => rfl⟩
  | some v =>
    constructor
    · intro e
      have h1 := h v rfl
      have h2 : (Int64.ofInt v).toInt = (-1000000000000000 : Int64).toInt := congrArg Int64.toInt e
      rw [i64_in h1] at h2
      have h3 : (-1000000000000000 : Int64).toInt = -1000000000000000 := by decide
      omega
    · intro e
      cases e
def cmpI (o : Nat) (v w : Int) : Bool := if o = 0 then decide (v = w) else if o = 1 then !decide (v = w) else if o = 2 then decide (v < w) else decide (w < v)
def cmpN (o : Nat) (x y : Option Int) : Bool := match x with
  | none => decide (o = 1)
  | some v => match y with
    | none => decide (o = 1)
    | some w => cmpI o v w
section CMN
variable {F o : Nat} {x y : Option Int} {σ : St}
theorem d_e {v w : Int} (h : -1000000000000 < v ∧ v < 1000000000000) (g : -1000000000000 < w ∧ w < 1000000000000) : decide (lg_cmp (Int64.ofInt v) (Int64.ofInt w) = 0) = decide (v = w) := decide_eq_decide.mpr ((lg_eq _ _).trans (i64_eq h g))
theorem d_l {v w : Int} (h : -1000000000000 < v ∧ v < 1000000000000) (g : -1000000000000 < w ∧ w < 1000000000000) : decide (lg_cmp (Int64.ofInt v) (Int64.ofInt w) < 0) = decide (v < w) := decide_eq_decide.mpr ((lg_cmp_lt _ _).trans (i64_lt h g))
theorem d_g {v w : Int} (h : -1000000000000 < v ∧ v < 1000000000000) (g : -1000000000000 < w ∧ w < 1000000000000) : decide (0 < lg_cmp (Int64.ofInt v) (Int64.ofInt w)) = decide (w < v) := decide_eq_decide.mpr ((lg_cmp_gt _ _).trans (i64_lt g h))
theorem oc4 (h : o < 4) : o = 0 ∨ o = 1 ∨ o = 2 ∨ o = 3 := by omega
theorem f75_e (ho : o < 4) (hx : nOk x) (hy : nOk y) : f75 F (Int32.ofNat (8 + o)) (eC x) (eC y) σ = oI (b2i (cmpN o x y)) σ := by
  have un : (if Int32.ofNat (8 + o) = 9 then oI 1 σ else oI 0 σ) = oI (b2i (decide (o = 1))) σ := by
    rw [ifd]
    rcases oc4 ho with rfl | rfl | rfl | rfl <;> rfl
  unfold f75
  cases x with
  | none =>
    rw [if_pos ((lg_eq (eC none) 4611686018427387904).mpr rfl)]
    exact un
  | some v =>
    rw [if_neg (fun g => by have := (eC_n hx).mp ((lg_eq _ _).mp g); cases this)]
    cases y with
    | none =>
      rw [if_pos ((lg_eq (eC none) 4611686018427387904).mpr rfl)]
      exact un
    | some w =>
      rw [if_neg (fun g => by have := (eC_n hy).mp ((lg_eq _ _).mp g); cases this)]
      have h := hx v rfl
      have g := hy w rfl
      show _ = oI (b2i (cmpI o v w)) σ
      unfold eC
      show (if _ then (if lg_cmp (Int64.ofInt v) (Int64.ofInt w) = 0 then _ else _) else _) = _
      rcases oc4 ho with rfl | rfl | rfl | rfl
      · rw [if_pos (by decide), ifd, d_e h g]
        rfl
      · rw [if_neg (by decide), if_pos (by decide), ifdn, d_e h g]
        rfl
      · rw [if_neg (by decide), if_neg (by decide), if_pos (by decide), ifd, d_l h g]
        rfl
      · rw [if_neg (by decide), if_neg (by decide), if_neg (by decide), ifd, d_g h g]
        rfl
theorem f245_e (ho : o < 4) (hx : nOk x) (hy : nOk y) : f245 F (Int32.ofNat (9 + o)) (eM x) (eM y) σ = oI (b2i (cmpN o x y)) σ := by
  have un : (if Int32.ofNat (9 + o) = 10 then oI 1 σ else oI 0 σ) = oI (b2i (decide (o = 1))) σ := by
    rw [ifd]
    rcases oc4 ho with rfl | rfl | rfl | rfl <;> rfl
  unfold f245
  cases x with
  | none =>
    rw [if_pos ((lg_eq (eM none) (-1000000000000000)).mpr rfl)]
    exact un
  | some v =>
    rw [if_neg (fun g => by have := (eM_n hx).mp ((lg_eq _ _).mp g); cases this)]
    cases y with
    | none =>
      rw [if_pos ((lg_eq (eM none) (-1000000000000000)).mpr rfl)]
      exact un
    | some w =>
      rw [if_neg (fun g => by have := (eM_n hy).mp ((lg_eq _ _).mp g); cases this)]
      have h := hx v rfl
      have g := hy w rfl
      show _ = oI (b2i (cmpI o v w)) σ
      unfold eM
      show (if _ then (if lg_cmp (Int64.ofInt v) (Int64.ofInt w) = 0 then _ else _) else _) = _
      rcases oc4 ho with rfl | rfl | rfl | rfl
      · rw [if_pos (by decide), ifd, d_e h g]
        rfl
      · rw [if_neg (by decide), if_pos (by decide), ifdn, d_e h g]
        rfl
      · rw [if_neg (by decide), if_neg (by decide), if_pos (by decide), ifd, d_l h g]
        rfl
      · rw [if_neg (by decide), if_neg (by decide), if_neg (by decide), ifd, d_g h g]
        rfl
theorem dgN_lt {s : List Int32} {i : Nat} : ∀ n, (∀ j, j < n → isDig (s.getD (i + j) 0) = true) → dgN s i n < 10 ^ n
  | 0, _ => Nat.zero_lt_one
  | n + 1, h => by
    have ih := dgN_lt (s := s) (i := i) n (fun j hj => h j (by omega))
    obtain ⟨d, h1, h2, h3⟩ := dig_c (h n (by omega))
    show dgN s i n * 10 + ((s.getD (i + n) 0).toNatClampNeg - 48) < 10 ^ (n + 1)
    rw [h3, Nat.pow_succ]
    omega
theorem skp_in {f : Int32 → Bool} {s : List Int32} (h0 : f 0 = false) : ∀ (m p : Nat), skp f s p = p + m → ∀ j, j < m → f (s.getD (p + j) 0) = true
  | 0, _, _, j, hj => absurd hj (by omega)
  | m + 1, p, h, j, hj => by
    rcases skp_cases (b := s) (p := p) h0 with ⟨h1, h2, h3⟩ | ⟨h1, h2⟩
    · by_cases c : j = 0
      · rw [c]
        exact h1
      · have := skp_in (s := s) h0 m (p + 1) (by omega) (j - 1) (by omega)
        rw [show p + 1 + (j - 1) = p + j by omega] at this
        exact this
    · omega
theorem numT_ok {s : List Int32} : ∀ v, numT s = some v → -1000000000 < v ∧ v < 1000000000 := by
  intro v h
  unfold numT at h
  split at h
  · cases h
  · split at h
    · cases h
    · split at h
      · cases h
      · have hg := skp_ge (f := isDig) (b := s) (p := nuK s)
        have h1 := dgN_lt (s := s) (i := nuK s) (nuE s - nuK s) (fun j hj => skp_in isDig_0 (nuE s - nuK s) (nuK s) (by unfold nuE; unfold nuE at hj; omega) j hj)
        have h2 : 10 ^ (nuE s - nuK s) ≤ 10 ^ 9 := Nat.pow_le_pow_right (by decide) (by omega)
        have h3 : (10 : Nat) ^ 9 = 1000000000 := by decide
        injection h with h
        split at h <;> omega
end CMN
