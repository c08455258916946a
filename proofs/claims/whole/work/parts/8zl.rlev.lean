/-! THE REFERENCE READS at every level: isPath -/
section RLV
variable {F : Nat} {b : List Int32} {ns : List Nd}
theorem rl_P (hF : 500 ≤ F) (hq : qOk ns b) {j : Nat} (hj : j ≤ 4) (hX : 1 ≤ j → rgX F b ns (5 - j) (lev ns b j).2) : rgP F b ns (4 - j) (lev ns b (j + 1)).1 := by
  have hn := hq.2.1.1.1
  refine rP hF hq.2.2.2 hq.2.2.1 (by omega) hq.1.1 (fun hd => ?_) (fun hd p => ?_) (lev_ok hq j).2
  · have x := hX (by omega)
    rw [show 5 - j = 4 - j + 1 by omega] at x
    exact x
  · have : j = 0 := by omega
    subst this
    rfl
theorem rl (hF : 500 ≤ F) (hq : qOk ns b) : ∀ j, j ≤ 5 → (1 ≤ j → rgX F b ns (5 - j) (lev ns b j).2) ∧ (1 ≤ j → rgP F b ns (5 - j) (lev ns b j).1)
  | 0, _ => ⟨fun h => by omega, fun h => by omega⟩
  | j + 1, hj => by
    obtain ⟨ihX, ihP⟩ := rl hF hq j (by omega)
    have hn := hq.2.1.1.1
    have P1 := rl_P hF hq (j := j) (by omega) ihX
    have O1 : rgO F b ns (4 - j) (opL ns b j) := by
      refine rO hF hq.2.2.2 hq.2.2.1 P1 (lev_ok hq (j + 1)).1 (fun hd => ?_) (fun hd p => ?_) (lev_ok hq j).1 (fun hd => ?_) (fun hd p => ?_) (lev_ok hq j).2
      · have x := ihP (by omega)
        rw [show 5 - j = 4 - j + 1 by omega] at x
        exact x
      · have : j = 0 := by omega
        subst this
        rfl
      · have x := ihX (by omega)
        rw [show 5 - j = 4 - j + 1 by omega] at x
        exact x
      · have : j = 0 := by omega
        subst this
        rfl
    refine ⟨fun _ => ?_, fun _ => ?_⟩
    · rw [show 5 - (j + 1) = 4 - j by omega]
      exact rX hq.2.2.2 O1 (opL_ok hq j)
    · rw [show 5 - (j + 1) = 4 - j by omega]
      exact P1
def T0 : Tb := (fun _ => false, fun _ => (0, 0, 0, 0, 0), fun _ => 0, fun _ => (0, 0, 0, 0))
theorem f207_8 {n : Nat} {τ : St} : f207_46 F (n + 1) (Int32.ofNat 8) τ = oI 0 τ := by
  rw [f207_46.eq_2, if_neg (by decide), if_pos (by decide), if_neg (by decide)]
theorem f207_0 {n : Nat} {τ : St} : f207_46 F (n + 1) (Int32.ofNat 0) τ = oI 1 τ := by
  rw [f207_46.eq_2, if_pos (by decide), if_pos (by decide)]
theorem f207_e {σ : St} (hF : 2000 ≤ F) (hq : qOk ns b) (hB : bufM σ b) : (qry ns b = none → ∃ τ, f207 F σ = oI 0 τ ∧ agR0 σ τ) ∧ ∀ m, qry ns b = some m → ∃ (τ : St) (np nst npr nop : Nat) (T : Tb) (PT : Nat → Sm), f207 F σ = oI 1 τ ∧ agR0 σ τ ∧ mQ b τ b.length 0 np nst npr nop T ∧ gdT ns b (fun _ _ => 0) PT T 0 0 np nst npr nop ∧ PT 0 = m ∧ 0 < np := by
  have hb := hq.2.2.2
  have hg := (lev_ok hq 5).1
  have i0 : inB 0 6 := oN_rg (p := 0) (n := 6) (by decide) (by decide)
  have P5 := (rl (F := F) (by omega) hq 5 (Nat.le_refl _)).2 (by omega)
  have e0 : f207 F σ = f207_46 F F (Int32.ofNat 1) (uI (uI (uI (uI (uI (uI (uI (uI σ 1315 36 0) 1315 38 0) 1315 44 0) 1315 46 0) 1315 52 0) 1353 0 0) 1356 0 (-1)) 1315 32 0) := by
    unfold f207
    simp only [ltE, if_pos i0]
    rfl
  have a0 : agR0 σ (uI (uI (uI (uI (uI (uI (uI (uI σ 1315 36 0) 1315 38 0) 1315 44 0) 1315 46 0) 1315 52 0) 1353 0 0) 1356 0 (-1)) 1315 32 0) := by
    refine ⟨rfl, fun A h1 h2 => ?_, fun j hj => ?_⟩
    · rw [u_ne (by omega), u_ne (by omega), u_ne (by omega), u_ne (by omega), u_ne (by omega), u_ne (by omega), u_ne (by omega), u_ne (by omega)]
    · simp only [xI1]
      repeat rw [if_neg (by omega)]
  have m0 : mQ b (uI (uI (uI (uI (uI (uI (uI (uI σ 1315 36 0) 1315 38 0) 1315 44 0) 1315 46 0) 1315 52 0) 1353 0 0) 1356 0 (-1)) 1315 32 0) 0 0 0 0 0 0 T0 := by
    refine ⟨hB.fr (a0.2.2 1 (by omega)) (a0.2.1 1316 (by decide) (by omega)), ⟨by simp [xI1], by simp [xI1], by simp [xI1], by simp [xI1], by simp [xI1], by simp [xI1]⟩, ⟨fun k hk => absurd hk (Nat.not_lt_zero _), fun k hk => absurd hk (Nat.not_lt_zero _), fun k hk => absurd hk (Nat.not_lt_zero _), fun k hk => absurd hk (Nat.not_lt_zero _)⟩, ⟨fun k hk => absurd hk (Nat.not_lt_zero _), fun k hk => absurd hk (Nat.not_lt_zero _), fun k hk => absurd hk (Nat.not_lt_zero _)⟩, Nat.zero_le _, by omega, by omega, by omega, by omega, by omega⟩
  have fr0 : (uI (uI (uI (uI (uI (uI (uI (uI σ 1315 36 0) 1315 38 0) 1315 44 0) 1315 46 0) 1315 52 0) 1353 0 0) 1356 0 (-1)) 1315 32 0).1 1353 0 = 0 := by simp [xI1]
  rw [e0]
  generalize (uI (uI (uI (uI (uI (uI (uI (uI σ 1315 36 0) 1315 38 0) 1315 44 0) 1315 46 0) 1315 52 0) 1353 0 0) 1356 0 (-1)) 1315 32 0) = σ8 at a0 m0 fr0
  have x := P5 σ8 0 0 0 0 0 T0 (fun _ _ => 0) m0 ⟨Nat.le_refl _, Nat.le_refl _, Nat.le_refl _, Nat.le_refl _⟩
  have bad : rBad F b 1 σ8 0 → ∃ τ, f207_46 F F (Int32.ofNat 1) σ8 = oI 0 τ ∧ agR0 σ τ := by
    intro ⟨τ, c, h1, h2, h3⟩
    have k1 : rK 1 = 9 := rfl
    refine ⟨τ, ?_, a0.tr h3⟩
    have := h1 (F - c - 1 + 1)
    rw [show F - c - 1 + 1 + c = F by omega] at this
    rw [this]
    exact f207_8
  unfold qry
  cases hp : (lev ns b 5).1 0 with
  | none => exact ⟨fun _ => bad (x.1 hp), fun m hm => by cases hm⟩
  | some z =>
    obtain ⟨z1, z2, z3⟩ := hg _ _ (Nat.zero_le _) hp
    obtain ⟨τ, c, np, nst, npr, nop, T, PT, t1, t2, t3, t4, t5, t6, t7, t8, t9, t10⟩ := x.2 z hp
    have fr : τ.1 1353 0 = 0 := by
      rw [t4.1.2.1]
      exact fr0
    have k5 := f220_t (F := F) t3 hb fr
    dsimp only
    by_cases cz : z.1 = b.length
    · rw [if_pos cz]
      refine ⟨fun q => (by cases q), fun m hm => ?_⟩
      injection hm with hm
      subst hm
      rw [if_pos cz] at k5
      have r5 : Rn F 5 τ 0 τ 1 := Rn.m5 k5
      have rr := t1.tr r5 (F - (c + 1) - 1 + 1)
      rw [show F - (c + 1) - 1 + 1 + (c + 1) = F by omega] at rr
      rw [cz] at t3
      refine ⟨τ, np, nst, npr, nop, T, PT, ?_, a0.tr t4.1.1.1, t3, t7, t8, t9⟩
      rw [rr]
      exact f207_0
    · rw [if_neg cz]
      rw [if_neg cz] at k5
      have r5 : Rn F 5 τ 8 τ 1 := Rn.m5 k5
      exact ⟨fun _ => bad ((rBad.at r5 z2 agR0.rf).bk t1 (by omega) t4.1.1.1), fun m hm => by cases hm⟩
end RLV
