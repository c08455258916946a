/-! THE FRESH STORE -/
def sI (a j : Nat) : Int32 := match e3 a with
  | some (.inl (_, _, .inl f)) => f j
  | some (.inr q) => (match q.2[j]? with | some (.int x) => x | _ => 0)
  | _ => 0
def sJ (a j : Nat) : Int64 := match e3 a with
  | some (.inl (_, _, .inr (.inl f))) => f j
  | some (.inr q) => (match q.2[j]? with | some (.long x) => x | _ => 0)
  | _ => 0
def sR (a j : Nat) : Value := match e3 a with
  | some (.inr q) => (q.2[j]?).getD .null
  | _ => .null
def σ0 : St := (sI, sJ, sR, [])
theorem mk0 : mkH σ0 = E3 := by
  apply List.ext_getElem?
  intro k
  unfold mkH
  rw [List.getElem?_mapIdx]
  cases hk : E3[k]? with
  | none => rfl
  | some e =>
    have h3 : e3 (1000 + k) = some e := by
      unfold e3
      rw [if_neg (by omega), show 1000 + k - 1000 = k by omega, hk]
    show some (ceW (sI (1000 + k)) (sJ (1000 + k)) (sR (1000 + k)) e) = some e
    congr 1
    cases e with
    | inl q =>
      obtain ⟨t, n, c⟩ := q
      rcases c with f | f | f | f | f
      · have e1 : sI (1000 + k) = f := by funext j; simp [sI, h3]
        simp only [ceW, e1]
      · have e1 : sJ (1000 + k) = f := by funext j; simp [sJ, h3]
        simp only [ceW, e1]
      · rfl
      · rfl
      · rfl
    | inr q =>
      obtain ⟨ci, vs⟩ := q
      simp only [ceW]
      congr 2
      apply List.ext_getElem?
      intro j
      rw [List.getElem?_mapIdx]
      cases hv : vs[j]? with
      | none => rfl
      | some v =>
        have e1 : sR (1000 + k) j = v := by simp [sR, h3, hv]
        cases v with
        | int x =>
          have e2 : sI (1000 + k) j = x := by simp [sI, h3, hv]
          simp [slW, e2]
        | long x =>
          have e2 : sJ (1000 + k) j = x := by simp [sJ, h3, hv]
          simp [slW, e2]
        | _ => simp [slW, e1]
theorem g0 : gH σ0 = E3 := by
  unfold gH
  rw [mk0]
  exact List.append_nil _
theorem run_of {sc : aSc} (hfr : frB sc.2.2 = true ∧ eqH E3 (H3 sc.2.2)) (hv : vOk sc) (hL : ¬ sc.1 = 99999) {F n : Nat} {σ' : St} (h : f2_23 F sc n (Int32.ofNat 0) σ0 = oI 1 σ') : ∃ A', aEx sc 300 2 0 (aEntry 7 [.ref 0]) [] [] (.returned (some (.int 1))) A' ∧ eqH (gH σ') A' := by
  have b := (s2_23 F sc hv hL n (Int32.ofNat 0) σ0 (.inl (some (.int 1))) σ' h).2 300 (by decide)
  rw [g0] at b
  obtain ⟨m, hm⟩ := b
  obtain ⟨B', k1, k2⟩ := aRun_eqv _ _ _ _ _ _ _ _ _ _ hfr.2 hm
  exact ⟨B', law_head hfr.1 (by decide) ⟨m, k1⟩, k2⟩
/-! the room -/
theorem aSl_ce (f : Nat → Int32) (g : Nat → Int64) (r : Nat → Value) (e : aE) : aSl aNs (ceW f g r e) = aSl aNs e := by
  rcases e with ⟨t, n, c⟩ | ⟨ci, vs⟩
  · rcases c with c | c | c | c | c <;> rfl
  · rfl
theorem sum_mk (σ : St) : aSum (mkH σ) = aSum E3 := by
  unfold aSum
  refine congrArg List.sum ?_
  apply List.ext_getElem?
  intro k
  unfold mkH
  rw [List.getElem?_map, List.getElem?_map, List.getElem?_mapIdx]
  cases E3[k]? with
  | none => rfl
  | some e => exact congrArg some (aSl_ce _ _ _ e)
set_option maxRecDepth 100000 in
theorem sum_E3 : aSum E3 ≤ 30000 := by decide +kernel
/-- what is claimed of a script -/
def goal1 (sc : aSc) : Prop := ∃ (n d : Nat) (A' : aH), aRun sc n d 2 0 (aEntry 7 [.ref 0]) [] [] = some (.returned (some (.int 1)), A') ∧ A'.length ≤ 600000 ∧ aSum A' ≤ 7000000 ∧ d + 9 ≤ 2048 ∧ 100 * (d + 2) ≤ 84000
theorem aNs_le (ci : Nat) : aNs ci ≤ 65 := by
  unfold aNs
  split <;> decide
theorem goal_of {sc : aSc} (hfr : frB sc.2.2 = true ∧ eqH E3 (H3 sc.2.2)) (hv : vOk sc) (hL : ¬ sc.1 = 99999) {F n : Nat} {σ' : St} (h : f2_23 F sc n (Int32.ofNat 0) σ0 = oI 1 σ') (hX : σ'.2.2.2.length ≤ 1536) (hE : ∀ e ∈ σ'.2.2.2, aSl aNs e ≤ 65) : goal1 sc := by
  obtain ⟨A', ⟨m, h1⟩, h2⟩ := run_of hfr hv hL h
  refine ⟨m, 300, A', h1, ?_, ?_, by decide, by decide⟩
  · rw [← h2.1]
    unfold gH
    rw [List.length_append, mkH_len]
    omega
  · rw [← h2.sum]
    unfold gH
    have e1 : aSum (mkH σ' ++ σ'.2.2.2) = aSum E3 + aSum σ'.2.2.2 := by
      rw [← sum_mk σ']
      unfold aSum
      rw [List.map_append, List.sum_append]
    have e2 : ∀ X : aH, (∀ e ∈ X, aSl aNs e ≤ 65) → aSum X ≤ 65 * X.length := by
      intro X
      induction X with
      | nil => intro _; exact Nat.le_refl _
      | cons x X ih =>
        intro hx
        have k1 := ih (fun e he => hx e (List.mem_cons_of_mem _ he))
        have k2 := hx x List.mem_cons_self
        have k3 : aSum (x :: X) = aSl aNs x + aSum X := by
          unfold aSum
          rw [List.map_cons, List.sum_cons]
        rw [k3, List.length_cons]
        omega
    have k1 := e2 _ hE
    have k2 := sum_E3
    rw [e1]
    omega
/-! p1's calls: none at all, type, print -/
theorem len0 : σ0.1 1001 1 = 0 := by decide +kernel
theorem size0 : σ0.1 1315 1 = 0 := by decide +kernel
theorem count0 : σ0.1 1003 10 = 1 := by decide +kernel
theorem mcount0 : σ0.1 1315 3 = 1 := by decide +kernel
/-! the law's loop, a call of the script -/
theorem oN_i {p : Nat} (h : p < 2147483648) : (Int32.ofNat p).toInt = p := Int32.toInt_ofNat_of_lt h
theorem oN_n {p : Nat} (h : p < 2147483648) : (Int32.ofNat p).toNatClampNeg = p := by
  rw [tcn, oN_i h]
  rfl
theorem oN_p1 {p : Nat} : Int32.ofNat p + 1 = Int32.ofNat (p + 1) := by
  rw [Int32.ofNat_add]
  rfl
theorem oN_p2 {p : Nat} : Int32.ofNat p + 2 = Int32.ofNat (p + 2) := by
  rw [Int32.ofNat_add]
  rfl
theorem oN_p3 {p : Nat} : Int32.ofNat p + 3 = Int32.ofNat (p + 3) := by
  rw [Int32.ofNat_add]
  rfl
theorem oN_in {p L : Nat} (h : p < L) (hL : L ≤ 1536) : inB (Int32.ofNat p) L := inB_of (by rw [oN_i (by omega)]; omega) (by rw [oN_i (by omega)]; omega)
theorem i32_sub {x y : Int32} (h1 : -2147483648 ≤ x.toInt - y.toInt) (h2 : x.toInt - y.toInt < 2147483648) : (x - y).toInt = x.toInt - y.toInt := by
  rw [Int32.toInt_sub]
  apply Int.bmod_eq_of_le <;> omega
theorem law_lt {p L : Nat} (hL : L ≤ 1536) (hp : p ≤ 1536) : (Int32.ofNat L - 3 < Int32.ofNat p) ↔ L < p + 3 := by
  have e3 : (3 : Int32).toInt = 3 := rfl
  have e1 := oN_i (p := L) (by omega)
  rw [Int32.lt_iff_toInt_lt, i32_sub (by omega) (by omega), e1, oN_i (by omega), e3]
  omega
/-- the end -/
theorem law_end {F n p : Nat} {sc : aSc} {σ : St} (hL : sc.1 ≤ 1536) (hp : p ≤ 1536) (h : sc.1 < p + 3) : f2_23 F sc (n + 1) (Int32.ofNat p) σ = oI 1 σ := by
  rw [f2_23.eq_2, if_pos ((law_lt hL hp).mpr h)]
/-- the two halves of a long -/
def e8 (a b : Int32) : Int64 := (((a : Int32).toInt64) <<< ((32 : Int32).toInt64 &&& 63)) ||| (((b : Int32).toInt64) &&& 4294967295)
theorem law_op0 {F n p : Nat} {sc : aSc} {σ σ1 σ2 : St} {b : Int32} (hL : sc.1 ≤ 1536) (hp : p + 3 ≤ sc.1) (ho : sc.2.1 p &&& 15 = 0) (h1 : f10 F (e8 (sc.2.1 (p + 1)) (sc.2.1 (p + 2))) σ = oI b σ1) (h2 : f145 F (e8 (sc.2.1 (p + 1)) (sc.2.1 (p + 2))) σ1 = oI b σ2) : f2_23 F sc (n + 1) (Int32.ofNat p) σ = f2_23 F sc n (Int32.ofNat (p + 3)) σ2 := by
  rw [f2_23.eq_2, if_neg (fun hh => by have := (law_lt hL (by omega)).mp hh; omega), if_pos (oN_in (by omega) hL)]
  unfold lt
  rw [oN_n (by omega)]
  dsimp only
  have q1 := oN_n (p := p + 1) (by omega)
  have q2 := oN_n (p := p + 2) (by omega)
  rw [if_pos ho, oN_p1, oN_p2, if_pos (oN_in (by omega) hL), if_pos (oN_in (by omega) hL)]
  simp only [q1, q2]
  unfold e8 at h1 h2
  rw [h1, cIo, if_pos (oN_in (by omega) hL), if_pos (oN_in (by omega) hL), h2, cIo, if_pos rfl]
  unfold f2_703
  rw [oN_p3]
theorem law_op14 {F n p : Nat} {sc : aSc} {σ σ1 σ2 : St} {b : Int32} (hL : sc.1 ≤ 1536) (hp : p + 3 ≤ sc.1) (ho : sc.2.1 p &&& 15 = 14) (h1 : f20 F (sc.2.1 (p + 1)) σ = oI b σ1) (h2 : f197 F (sc.2.1 (p + 1)) σ1 = oI b σ2) : f2_23 F sc (n + 1) (Int32.ofNat p) σ = f2_23 F sc n (Int32.ofNat (p + 3)) σ2 := by
  rw [f2_23.eq_2, if_neg (fun hh => by have := (law_lt hL (by omega)).mp hh; omega), if_pos (oN_in (by omega) hL)]
  unfold lt
  rw [oN_n (by omega)]
  dsimp only
  have hn : ∀ k : Int32, ¬ (14 : Int32) = k → ¬ sc.2.1 p &&& 15 = k := fun k hk => by rw [ho]; exact hk
  rw [if_neg (hn 0 (by decide)), if_neg (hn 1 (by decide)), if_neg (hn 2 (by decide)), if_neg (hn 3 (by decide)), if_neg (hn 4 (by decide)), if_neg (hn 5 (by decide)), if_neg (hn 6 (by decide)), if_neg (hn 7 (by decide)), if_neg (hn 8 (by decide)), if_neg (hn 9 (by decide)), if_neg (hn 10 (by decide)), if_neg (hn 11 (by decide)), if_neg (hn 12 (by decide)), if_neg (hn 13 (by decide)), if_pos ho]
  have q1 := oN_n (p := p + 1) (by omega)
  rw [oN_p1, if_pos (oN_in (by omega) hL)]
  simp only [q1]
  rw [h1, cIo, if_pos (oN_in (by omega) hL), h2, cIo, if_pos rfl]
  unfold f2_703
  rw [oN_p3]
theorem law_type {F n : Nat} {xs : Nat → Int32} {v : Value} (hF : 9 ≤ F) (h : xs 0 &&& 15 = 0) : ∃ σ', f2_23 F (3, xs, v) (n + 1 + 1) (Int32.ofNat 0) σ0 = oI 1 σ' ∧ σ'.2.2.2 = [] := by
  obtain ⟨b, σ1, σ2, h1, h2, h3⟩ := type_ok (F := F) (e := e8 (xs 1) (xs 2)) (σ := σ0) hF (by rw [len0]; decide) (by rw [len0]; decide) (by rw [len0, size0])
  exact ⟨σ2, (law_op0 (sc := (3, xs, v)) (p := 0) (show 3 ≤ 1536 by decide) (show 0 + 3 ≤ 3 by decide) h h1 h2).trans (law_end (sc := (3, xs, v)) (p := 3) (show 3 ≤ 1536 by decide) (by decide) (show 3 < 3 + 3 by decide)), h3⟩
theorem print_0 {F : Nat} {k : Int32} (hF : 1 ≤ F) : ∃ σ1 σ2, f20 F k σ0 = oI 0 σ1 ∧ f197 F k σ1 = oI 0 σ2 ∧ σ2.2.2.2 = [] := by
  obtain ⟨n, rfl⟩ : ∃ n, F = n + 1 := ⟨F - 1, by omega⟩
  refine ⟨uI (uI (uI σ0 1314 1 k) 1314 2 0) 1314 3 0, uI (uI (uI (uI (uI (uI (uI σ0 1314 1 k) 1314 2 0) 1314 3 0) 1315 0 0) 1315 62 k) 1315 63 0) 1315 64 0, ?_, ?_, rfl⟩
  · unfold f20 f79
    simp only [lt]
    rw [f79_17.eq_2]
    simp only [lt]
    rw [u_ne (by decide), u_ne (by decide), u_ne (by decide), count0, if_neg (by decide), u_eq]
    rfl
  · unfold f197
    simp only [lt]
    rw [f197_24.eq_2]
    simp only [lt]
    have e1 : (uI (uI (uI (uI (uI (uI (uI σ0 1314 1 k) 1314 2 0) 1314 3 0) 1315 0 0) 1315 62 k) 1315 63 0) 1315 64 0).1 1315 3 = 1 := by
      rw [u_at, if_neg (by decide), u_at, if_neg (by decide), u_at, if_neg (by decide), u_at, if_neg (by decide), u_ne (by decide), u_ne (by decide), u_ne (by decide), mcount0]
    rw [e1, if_neg (by decide), f197_152.eq_2, if_neg (by decide)]
    simp only [lt]
    rw [u_eq]
theorem law_print {F n : Nat} {xs : Nat → Int32} {v : Value} (hF : 1 ≤ F) (h : xs 0 &&& 15 = 14) : ∃ σ', f2_23 F (3, xs, v) (n + 1 + 1) (Int32.ofNat 0) σ0 = oI 1 σ' ∧ σ'.2.2.2 = [] := by
  obtain ⟨σ1, σ2, h1, h2, h3⟩ := print_0 (F := F) (k := xs 1) hF
  exact ⟨σ2, (law_op14 (sc := (3, xs, v)) (p := 0) (show 3 ≤ 1536 by decide) (show 0 + 3 ≤ 3 by decide) h h1 h2).trans (law_end (sc := (3, xs, v)) (p := 3) (show 3 ≤ 1536 by decide) (by decide) (show 3 < 3 + 3 by decide)), h3⟩
