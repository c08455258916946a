/-! THE LAW'S LOOP: a call of each kind -/
section LAW
variable {F n p : Nat} {sc : aSc} {σ σ1 σ2 : St}
theorem law_tail {k v : Int32} {K : St → Rs} (h3 : σ2.1 1315 0 = k) (h4 : k = 0 → σ2.2.1 1361 0 = v.toInt64) : (cI (f144 F σ2) fun a τ => if a = k then (if k = 0 then (if inB 0 1 then lt (τ.2.1 1361 (0 : Int32).toNatClampNeg) fun z => if lg_cmp z ((v : Int32).toInt64) = 0 then K τ else oI 0 τ else none) else K τ) else oI 0 τ) = K σ2 := by
  unfold f144
  rw [ltE, cIo, if_pos h3]
  by_cases c : k = 0
  · rw [if_pos c, if_pos in01, t0, ltE, if_pos ((lg_eq _ _).mpr (h4 c))]
  · rw [if_neg c]
theorem law_op2 (hL : sc.1 ≤ 1536) (hp : p + 3 ≤ sc.1) (ho : sc.2.1 p &&& 15 = 2) {k v : Int32} (h1 : f3 F σ = oI k σ1) (h2 : f147 F σ1 = oI v σ2) (h3 : σ2.1 1315 0 = k) (h4 : k = 0 → σ2.2.1 1361 0 = v.toInt64) : f2_23 F sc (n + 1) (Int32.ofNat p) σ = f2_23 F sc n (Int32.ofNat (p + 3)) σ2 := by
  rw [f2_23.eq_2, if_neg (fun hh => by have := (law_lt hL (by omega)).mp hh; omega), if_pos (oN_in (by omega) hL)]
  unfold lt
  rw [oN_n (by omega)]
  dsimp only
  have hn : ∀ k : Int32, ¬ (2 : Int32) = k → ¬ sc.2.1 p &&& 15 = k := fun k hk => by rw [ho]; exact hk
  rw [if_neg (hn 0 (by decide)), if_neg (hn 1 (by decide)), if_pos ho]
  rw [h1, cIo, h2, cIo]
  refine Eq.trans (law_tail (K := fun τ => f2_221 F sc (f2_23 F sc n) (Int32.ofNat p) τ) h3 h4) ?_
  show f2_23 F sc n (Int32.ofNat p + 3) σ2 = _
  rw [oN_p3]
theorem law_op3 (hL : sc.1 ≤ 1536) (hp : p + 3 ≤ sc.1) (ho : sc.2.1 p &&& 15 = 3) {k v : Int32} (h1 : f4 F (sc.2.1 (p + 1)) (sc.2.1 (p + 2)) σ = oI k σ1) (h2 : f181 F (sc.2.1 (p + 1)) (sc.2.1 (p + 2)) σ1 = oI v σ2) (h3 : σ2.1 1315 0 = k) (h4 : k = 0 → σ2.2.1 1361 0 = v.toInt64) : f2_23 F sc (n + 1) (Int32.ofNat p) σ = f2_23 F sc n (Int32.ofNat (p + 3)) σ2 := by
  rw [f2_23.eq_2, if_neg (fun hh => by have := (law_lt hL (by omega)).mp hh; omega), if_pos (oN_in (by omega) hL)]
  unfold lt
  rw [oN_n (by omega)]
  dsimp only
  have hn : ∀ k : Int32, ¬ (3 : Int32) = k → ¬ sc.2.1 p &&& 15 = k := fun k hk => by rw [ho]; exact hk
  rw [if_neg (hn 0 (by decide)), if_neg (hn 1 (by decide)), if_neg (hn 2 (by decide)), if_pos ho]
  have q1 := oN_n (p := p + 1) (by omega)
  have q2 := oN_n (p := p + 2) (by omega)
  rw [oN_p1, oN_p2, if_pos (oN_in (by omega) hL), if_pos (oN_in (by omega) hL)]
  simp only [q1, q2]
  rw [h1, cIo, if_pos (oN_in (by omega) hL), if_pos (oN_in (by omega) hL), h2, cIo]
  refine Eq.trans (law_tail (K := fun τ => f2_289 F sc (f2_23 F sc n) (Int32.ofNat p) τ) h3 h4) ?_
  show f2_23 F sc n (Int32.ofNat p + 3) σ2 = _
  rw [oN_p3]
theorem law_op4 (hL : sc.1 ≤ 1536) (hp : p + 3 ≤ sc.1) (ho : sc.2.1 p &&& 15 = 4) {k v : Int32} (h1 : f5 F (sc.2.1 (p + 1)) σ = oI k σ1) (h2 : f186 F (sc.2.1 (p + 1)) σ1 = oI v σ2) (h3 : σ2.1 1315 0 = k) (h4 : k = 0 → σ2.2.1 1361 0 = v.toInt64) : f2_23 F sc (n + 1) (Int32.ofNat p) σ = f2_23 F sc n (Int32.ofNat (p + 3)) σ2 := by
  rw [f2_23.eq_2, if_neg (fun hh => by have := (law_lt hL (by omega)).mp hh; omega), if_pos (oN_in (by omega) hL)]
  unfold lt
  rw [oN_n (by omega)]
  dsimp only
  have hn : ∀ k : Int32, ¬ (4 : Int32) = k → ¬ sc.2.1 p &&& 15 = k := fun k hk => by rw [ho]; exact hk
  rw [if_neg (hn 0 (by decide)), if_neg (hn 1 (by decide)), if_neg (hn 2 (by decide)), if_neg (hn 3 (by decide)), if_pos ho]
  have q1 := oN_n (p := p + 1) (by omega)
  rw [oN_p1, if_pos (oN_in (by omega) hL)]
  simp only [q1]
  rw [h1, cIo, if_pos (oN_in (by omega) hL), h2, cIo]
  refine Eq.trans (law_tail (K := fun τ => f2_345 F sc (f2_23 F sc n) (Int32.ofNat p) τ) h3 h4) ?_
  show f2_23 F sc n (Int32.ofNat p + 3) σ2 = _
  rw [oN_p3]
theorem law_op5 (hL : sc.1 ≤ 1536) (hp : p + 3 ≤ sc.1) (ho : sc.2.1 p &&& 15 = 5) {k v : Int32} (h1 : f6 F (sc.2.1 (p + 1)) σ = oI k σ1) (h2 : f187 F (sc.2.1 (p + 1)) σ1 = oI v σ2) (h3 : σ2.1 1315 0 = k) (h4 : k = 0 → σ2.2.1 1361 0 = v.toInt64) : f2_23 F sc (n + 1) (Int32.ofNat p) σ = f2_23 F sc n (Int32.ofNat (p + 3)) σ2 := by
  rw [f2_23.eq_2, if_neg (fun hh => by have := (law_lt hL (by omega)).mp hh; omega), if_pos (oN_in (by omega) hL)]
  unfold lt
  rw [oN_n (by omega)]
  dsimp only
  have hn : ∀ k : Int32, ¬ (5 : Int32) = k → ¬ sc.2.1 p &&& 15 = k := fun k hk => by rw [ho]; exact hk
  rw [if_neg (hn 0 (by decide)), if_neg (hn 1 (by decide)), if_neg (hn 2 (by decide)), if_neg (hn 3 (by decide)), if_neg (hn 4 (by decide)), if_pos ho]
  have q1 := oN_n (p := p + 1) (by omega)
  rw [oN_p1, if_pos (oN_in (by omega) hL)]
  simp only [q1]
  rw [h1, cIo, if_pos (oN_in (by omega) hL), h2, cIo]
  refine Eq.trans (law_tail (K := fun τ => f2_401 F sc (f2_23 F sc n) (Int32.ofNat p) τ) h3 h4) ?_
  show f2_23 F sc n (Int32.ofNat p + 3) σ2 = _
  rw [oN_p3]
theorem law_op6 (hL : sc.1 ≤ 1536) (hp : p + 3 ≤ sc.1) (ho : sc.2.1 p &&& 15 = 6) {k v : Int32} (h1 : f7 F (sc.2.1 (p + 1)) σ = oI k σ1) (h2 : f206 F (sc.2.1 (p + 1)) σ1 = oI v σ2) (h3 : σ2.1 1315 0 = k) (h4 : k = 0 → σ2.2.1 1361 0 = v.toInt64) : f2_23 F sc (n + 1) (Int32.ofNat p) σ = f2_23 F sc n (Int32.ofNat (p + 3)) σ2 := by
  rw [f2_23.eq_2, if_neg (fun hh => by have := (law_lt hL (by omega)).mp hh; omega), if_pos (oN_in (by omega) hL)]
  unfold lt
  rw [oN_n (by omega)]
  dsimp only
  have hn : ∀ k : Int32, ¬ (6 : Int32) = k → ¬ sc.2.1 p &&& 15 = k := fun k hk => by rw [ho]; exact hk
  rw [if_neg (hn 0 (by decide)), if_neg (hn 1 (by decide)), if_neg (hn 2 (by decide)), if_neg (hn 3 (by decide)), if_neg (hn 4 (by decide)), if_neg (hn 5 (by decide)), if_pos ho]
  have q1 := oN_n (p := p + 1) (by omega)
  rw [oN_p1, if_pos (oN_in (by omega) hL)]
  simp only [q1]
  rw [h1, cIo, if_pos (oN_in (by omega) hL), h2, cIo]
  refine Eq.trans (law_tail (K := fun τ => f2_457 F sc (f2_23 F sc n) (Int32.ofNat p) τ) h3 h4) ?_
  show f2_23 F sc n (Int32.ofNat p + 3) σ2 = _
  rw [oN_p3]
theorem law_op7 (hL : sc.1 ≤ 1536) (hp : p + 3 ≤ sc.1) (ho : sc.2.1 p &&& 15 = 7) {k v : Int32} (h1 : f8 F (sc.2.1 (p + 1)) σ = oI k σ1) (h2 : f247 F (sc.2.1 (p + 1)) σ1 = oI v σ2) (h3 : σ2.1 1315 0 = k) (h4 : k = 0 → σ2.2.1 1361 0 = v.toInt64) : f2_23 F sc (n + 1) (Int32.ofNat p) σ = f2_23 F sc n (Int32.ofNat (p + 3)) σ2 := by
  rw [f2_23.eq_2, if_neg (fun hh => by have := (law_lt hL (by omega)).mp hh; omega), if_pos (oN_in (by omega) hL)]
  unfold lt
  rw [oN_n (by omega)]
  dsimp only
  have hn : ∀ k : Int32, ¬ (7 : Int32) = k → ¬ sc.2.1 p &&& 15 = k := fun k hk => by rw [ho]; exact hk
  rw [if_neg (hn 0 (by decide)), if_neg (hn 1 (by decide)), if_neg (hn 2 (by decide)), if_neg (hn 3 (by decide)), if_neg (hn 4 (by decide)), if_neg (hn 5 (by decide)), if_neg (hn 6 (by decide)), if_pos ho]
  have q1 := oN_n (p := p + 1) (by omega)
  rw [oN_p1, if_pos (oN_in (by omega) hL)]
  simp only [q1]
  rw [h1, cIo, if_pos (oN_in (by omega) hL), h2, cIo]
  refine Eq.trans (law_tail (K := fun τ => f2_513 F sc (f2_23 F sc n) (Int32.ofNat p) τ) h3 h4) ?_
  show f2_23 F sc n (Int32.ofNat p + 3) σ2 = _
  rw [oN_p3]
theorem law_op8 (hL : sc.1 ≤ 1536) (hp : p + 3 ≤ sc.1) (ho : sc.2.1 p &&& 15 = 8) {b : Int32} (h1 : f14 F σ = oI b σ1) (h2 : f190 F σ1 = oI b σ2) : f2_23 F sc (n + 1) (Int32.ofNat p) σ = f2_23 F sc n (Int32.ofNat (p + 3)) σ2 := by
  rw [f2_23.eq_2, if_neg (fun hh => by have := (law_lt hL (by omega)).mp hh; omega), if_pos (oN_in (by omega) hL)]
  unfold lt
  rw [oN_n (by omega)]
  dsimp only
  have hn : ∀ k : Int32, ¬ (8 : Int32) = k → ¬ sc.2.1 p &&& 15 = k := fun k hk => by rw [ho]; exact hk
  rw [if_neg (hn 0 (by decide)), if_neg (hn 1 (by decide)), if_neg (hn 2 (by decide)), if_neg (hn 3 (by decide)), if_neg (hn 4 (by decide)), if_neg (hn 5 (by decide)), if_neg (hn 6 (by decide)), if_neg (hn 7 (by decide)), if_pos ho]
  rw [h1, cIo, h2, cIo, if_pos rfl]
  unfold f2_703
  rw [oN_p3]
theorem law_op9 (hL : sc.1 ≤ 1536) (hp : p + 3 ≤ sc.1) (ho : sc.2.1 p &&& 15 = 9) {b : Int32} (h1 : f15 F (sc.2.1 (p + 1)) σ = oI b σ1) (h2 : f191 F (sc.2.1 (p + 1)) σ1 = oI b σ2) : f2_23 F sc (n + 1) (Int32.ofNat p) σ = f2_23 F sc n (Int32.ofNat (p + 3)) σ2 := by
  rw [f2_23.eq_2, if_neg (fun hh => by have := (law_lt hL (by omega)).mp hh; omega), if_pos (oN_in (by omega) hL)]
  unfold lt
  rw [oN_n (by omega)]
  dsimp only
  have hn : ∀ k : Int32, ¬ (9 : Int32) = k → ¬ sc.2.1 p &&& 15 = k := fun k hk => by rw [ho]; exact hk
  rw [if_neg (hn 0 (by decide)), if_neg (hn 1 (by decide)), if_neg (hn 2 (by decide)), if_neg (hn 3 (by decide)), if_neg (hn 4 (by decide)), if_neg (hn 5 (by decide)), if_neg (hn 6 (by decide)), if_neg (hn 7 (by decide)), if_neg (hn 8 (by decide)), if_pos ho]
  have q1 := oN_n (p := p + 1) (by omega)
  rw [oN_p1, if_pos (oN_in (by omega) hL)]
  simp only [q1]
  rw [h1, cIo, if_pos (oN_in (by omega) hL), h2, cIo, if_pos rfl]
  unfold f2_703
  rw [oN_p3]
theorem law_op10 (hL : sc.1 ≤ 1536) (hp : p + 3 ≤ sc.1) (ho : sc.2.1 p &&& 15 = 10) {b : Int32} (h1 : f16 F (sc.2.1 (p + 1)) σ = oI b σ1) (h2 : f192 F (sc.2.1 (p + 1)) σ1 = oI b σ2) : f2_23 F sc (n + 1) (Int32.ofNat p) σ = f2_23 F sc n (Int32.ofNat (p + 3)) σ2 := by
  rw [f2_23.eq_2, if_neg (fun hh => by have := (law_lt hL (by omega)).mp hh; omega), if_pos (oN_in (by omega) hL)]
  unfold lt
  rw [oN_n (by omega)]
  dsimp only
  have hn : ∀ k : Int32, ¬ (10 : Int32) = k → ¬ sc.2.1 p &&& 15 = k := fun k hk => by rw [ho]; exact hk
  rw [if_neg (hn 0 (by decide)), if_neg (hn 1 (by decide)), if_neg (hn 2 (by decide)), if_neg (hn 3 (by decide)), if_neg (hn 4 (by decide)), if_neg (hn 5 (by decide)), if_neg (hn 6 (by decide)), if_neg (hn 7 (by decide)), if_neg (hn 8 (by decide)), if_neg (hn 9 (by decide)), if_pos ho]
  have q1 := oN_n (p := p + 1) (by omega)
  rw [oN_p1, if_pos (oN_in (by omega) hL)]
  simp only [q1]
  rw [h1, cIo, if_pos (oN_in (by omega) hL), h2, cIo, if_pos rfl]
  unfold f2_703
  rw [oN_p3]
theorem law_op11 (hL : sc.1 ≤ 1536) (hp : p + 3 ≤ sc.1) (ho : sc.2.1 p &&& 15 = 11) {b : Int32} (h1 : f17 F (sc.2.1 (p + 1)) σ = oI b σ1) (h2 : f193 F (sc.2.1 (p + 1)) σ1 = oI b σ2) : f2_23 F sc (n + 1) (Int32.ofNat p) σ = f2_23 F sc n (Int32.ofNat (p + 3)) σ2 := by
  rw [f2_23.eq_2, if_neg (fun hh => by have := (law_lt hL (by omega)).mp hh; omega), if_pos (oN_in (by omega) hL)]
  unfold lt
  rw [oN_n (by omega)]
  dsimp only
  have hn : ∀ k : Int32, ¬ (11 : Int32) = k → ¬ sc.2.1 p &&& 15 = k := fun k hk => by rw [ho]; exact hk
  rw [if_neg (hn 0 (by decide)), if_neg (hn 1 (by decide)), if_neg (hn 2 (by decide)), if_neg (hn 3 (by decide)), if_neg (hn 4 (by decide)), if_neg (hn 5 (by decide)), if_neg (hn 6 (by decide)), if_neg (hn 7 (by decide)), if_neg (hn 8 (by decide)), if_neg (hn 9 (by decide)), if_neg (hn 10 (by decide)), if_pos ho]
  have q1 := oN_n (p := p + 1) (by omega)
  rw [oN_p1, if_pos (oN_in (by omega) hL)]
  simp only [q1]
  rw [h1, cIo, if_pos (oN_in (by omega) hL), h2, cIo, if_pos rfl]
  unfold f2_703
  rw [oN_p3]
theorem law_op12 (hL : sc.1 ≤ 1536) (hp : p + 3 ≤ sc.1) (ho : sc.2.1 p &&& 15 = 12) {b : Int32} (h1 : f18 F (sc.2.1 (p + 1)) (sc.2.1 (p + 2)) σ = oI b σ1) (h2 : f194 F (sc.2.1 (p + 1)) (sc.2.1 (p + 2)) σ1 = oI b σ2) : f2_23 F sc (n + 1) (Int32.ofNat p) σ = f2_23 F sc n (Int32.ofNat (p + 3)) σ2 := by
  rw [f2_23.eq_2, if_neg (fun hh => by have := (law_lt hL (by omega)).mp hh; omega), if_pos (oN_in (by omega) hL)]
  unfold lt
  rw [oN_n (by omega)]
  dsimp only
  have hn : ∀ k : Int32, ¬ (12 : Int32) = k → ¬ sc.2.1 p &&& 15 = k := fun k hk => by rw [ho]; exact hk
  rw [if_neg (hn 0 (by decide)), if_neg (hn 1 (by decide)), if_neg (hn 2 (by decide)), if_neg (hn 3 (by decide)), if_neg (hn 4 (by decide)), if_neg (hn 5 (by decide)), if_neg (hn 6 (by decide)), if_neg (hn 7 (by decide)), if_neg (hn 8 (by decide)), if_neg (hn 9 (by decide)), if_neg (hn 10 (by decide)), if_neg (hn 11 (by decide)), if_pos ho]
  have q1 := oN_n (p := p + 1) (by omega)
  have q2 := oN_n (p := p + 2) (by omega)
  rw [oN_p1, oN_p2, if_pos (oN_in (by omega) hL), if_pos (oN_in (by omega) hL)]
  simp only [q1, q2]
  rw [h1, cIo, if_pos (oN_in (by omega) hL), if_pos (oN_in (by omega) hL), h2, cIo, if_pos rfl]
  unfold f2_703
  rw [oN_p3]
theorem law_op13 (hL : sc.1 ≤ 1536) (hp : p + 3 ≤ sc.1) (ho : sc.2.1 p &&& 15 = 13) {b : Int32} (h1 : f19 F (sc.2.1 (p + 1)) (sc.2.1 (p + 2)) σ = oI b σ1) (h2 : f195 F (sc.2.1 (p + 1)) (sc.2.1 (p + 2)) σ1 = oI b σ2) : f2_23 F sc (n + 1) (Int32.ofNat p) σ = f2_23 F sc n (Int32.ofNat (p + 3)) σ2 := by
  rw [f2_23.eq_2, if_neg (fun hh => by have := (law_lt hL (by omega)).mp hh; omega), if_pos (oN_in (by omega) hL)]
  unfold lt
  rw [oN_n (by omega)]
  dsimp only
  have hn : ∀ k : Int32, ¬ (13 : Int32) = k → ¬ sc.2.1 p &&& 15 = k := fun k hk => by rw [ho]; exact hk
  rw [if_neg (hn 0 (by decide)), if_neg (hn 1 (by decide)), if_neg (hn 2 (by decide)), if_neg (hn 3 (by decide)), if_neg (hn 4 (by decide)), if_neg (hn 5 (by decide)), if_neg (hn 6 (by decide)), if_neg (hn 7 (by decide)), if_neg (hn 8 (by decide)), if_neg (hn 9 (by decide)), if_neg (hn 10 (by decide)), if_neg (hn 11 (by decide)), if_neg (hn 12 (by decide)), if_pos ho]
  have q1 := oN_n (p := p + 1) (by omega)
  have q2 := oN_n (p := p + 2) (by omega)
  rw [oN_p1, oN_p2, if_pos (oN_in (by omega) hL), if_pos (oN_in (by omega) hL)]
  simp only [q1, q2]
  rw [h1, cIo, if_pos (oN_in (by omega) hL), if_pos (oN_in (by omega) hL), h2, cIo, if_pos rfl]
  unfold f2_703
  rw [oN_p3]
theorem law_op1 (hL : sc.1 ≤ 1536) (hp : p + 3 ≤ sc.1) (ho : sc.2.1 p &&& 15 = 1) (h1 : f13 F σ = oV σ1) (h2 : f146 F σ1 = oV σ2) : f2_23 F sc (n + 1) (Int32.ofNat p) σ = f2_23 F sc n (Int32.ofNat (p + 3)) σ2 := by
  rw [f2_23.eq_2, if_neg (fun hh => by have := (law_lt hL (by omega)).mp hh; omega), if_pos (oN_in (by omega) hL)]
  unfold lt
  rw [oN_n (by omega)]
  dsimp only
  have hn : ∀ k : Int32, ¬ (1 : Int32) = k → ¬ sc.2.1 p &&& 15 = k := fun k hk => by rw [ho]; exact hk
  rw [if_neg (hn 0 (by decide)), if_pos ho]
  rw [h1, cVo, h2, cVo]
  unfold f2_703
  rw [oN_p3]
theorem law_op15 (hL : sc.1 ≤ 1536) (hp : p + 3 ≤ sc.1) (ho : ∀ k : Int32, k ∈ ([0, 1, 2, 3, 4, 5, 6, 7, 8, 9, 10, 11, 12, 13, 14] : List Int32) → ¬ sc.2.1 p &&& 15 = k) : f2_23 F sc (n + 1) (Int32.ofNat p) σ = f2_23 F sc n (Int32.ofNat (p + 3)) σ := by
  rw [f2_23.eq_2, if_neg (fun hh => by have := (law_lt hL (by omega)).mp hh; omega), if_pos (oN_in (by omega) hL)]
  unfold lt
  rw [oN_n (by omega)]
  dsimp only
  rw [if_neg (ho 0 (by decide)), if_neg (ho 1 (by decide)), if_neg (ho 2 (by decide)), if_neg (ho 3 (by decide)), if_neg (ho 4 (by decide)), if_neg (ho 5 (by decide)), if_neg (ho 6 (by decide)), if_neg (ho 7 (by decide)), if_neg (ho 8 (by decide)), if_neg (ho 9 (by decide)), if_neg (ho 10 (by decide)), if_neg (ho 11 (by decide)), if_neg (ho 12 (by decide)), if_neg (ho 13 (by decide)), if_neg (ho 14 (by decide))]
  unfold f2_703
  rw [oN_p3]
end LAW
