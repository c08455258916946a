/-! THE REFERENCE'S READER: its state, and what grows -/
def tbM (σ : St) (T : Tb) (np nst npr nop : Nat) : Prop := (∀ k, k < np → σ.1 1341 k = b2i (T.1 k)) ∧ (∀ s, s < nst → σ.1 1342 s = Int32.ofNat (T.2.1 s).1 ∧ mSt σ s (T.2.1 s).2.1 (T.2.1 s).2.2.1 (T.2.1 s).2.2.2.1 (T.2.1 s).2.2.2.2) ∧ (∀ r, r < npr → σ.1 1347 r = Int32.ofNat (T.2.2.1 r)) ∧ (∀ o, o < nop → σ.1 1348 o = Int32.ofNat (T.2.2.2 o).1 ∧ σ.1 1349 o = Int32.ofNat (T.2.2.2 o).2.1 ∧ σ.1 1350 o = Int32.ofNat (T.2.2.2 o).2.2.1 ∧ σ.1 1351 o = Int32.ofNat (T.2.2.2 o).2.2.2)
def mQ (b : List Int32) (σ : St) (p d np nst npr nop : Nat) (T : Tb) : Prop := bufM σ b ∧ (σ.1 1315 32 = Int32.ofNat p ∧ σ.1 1315 52 = Int32.ofNat d ∧ σ.1 1315 36 = Int32.ofNat np ∧ σ.1 1315 38 = Int32.ofNat nst ∧ σ.1 1315 44 = Int32.ofNat npr ∧ σ.1 1315 46 = Int32.ofNat nop) ∧ tbM σ T np nst npr nop ∧ TW b T np nst npr nop ∧ (p ≤ b.length ∧ d ≤ 4 ∧ np ≤ 121 ∧ nst ≤ 121 ∧ npr ≤ 121 ∧ nop ≤ 121)
def agR0 (σ τ : St) : Prop := τ.2 = σ.2 ∧ (∀ A, ¬ A = 1315 → ¬ (1341 ≤ A ∧ A ≤ 1358 ∧ ¬ A = 1352) → τ.1 A = σ.1 A) ∧ (∀ j, ¬ (j = 32 ∨ j = 36 ∨ j = 38 ∨ j = 44 ∨ j = 46 ∨ j = 52) → τ.1 1315 j = σ.1 1315 j)
/-- frames below d are as they were -/
def agF (d : Nat) (σ τ : St) : Prop := agR0 σ τ ∧ ∀ i, i < d → ∀ A, 1353 ≤ A → A ≤ 1358 → τ.1 A i = σ.1 A i
/-- and at d all but path and step -/
def agR (d : Nat) (σ τ : St) : Prop := agF d σ τ ∧ τ.1 1353 d = σ.1 1353 d ∧ τ.1 1356 d = σ.1 1356 d
def agK (d : Nat) (σ τ : St) : Prop := agR d σ τ ∧ τ.1 1357 d = σ.1 1357 d ∧ τ.1 1358 d = σ.1 1358 d
section RRL
variable {F p d np nst npr nop : Nat} {b : List Int32} {T : Tb} {σ τ υ : St}
theorem agR0.rf : agR0 σ σ := ⟨rfl, fun _ _ _ => rfl, fun _ _ => rfl⟩
theorem agR0.tr (h : agR0 σ τ) (g : agR0 τ υ) : agR0 σ υ := ⟨by rw [g.1, h.1], fun A h1 h2 => by rw [g.2.1 A h1 h2, h.2.1 A h1 h2], fun j hj => by rw [g.2.2 j hj, h.2.2 j hj]⟩
theorem agF.rf : agF d σ σ := ⟨agR0.rf, fun _ _ _ _ _ => rfl⟩
theorem agF.tr {e : Nat} (h : agF d σ τ) (g : agF e τ υ) (he : d ≤ e) : agF d σ υ := ⟨h.1.tr g.1, fun i hi A h1 h2 => by rw [g.2 i (by omega) A h1 h2, h.2 i hi A h1 h2]⟩
theorem agR.rf : agR d σ σ := ⟨agF.rf, rfl, rfl⟩
theorem agR.tr (h : agR d σ τ) (g : agR d τ υ) : agR d σ υ := ⟨h.1.tr g.1 (Nat.le_refl _), by rw [g.2.1, h.2.1], by rw [g.2.2, h.2.2]⟩
theorem agK.rf : agK d σ σ := ⟨agR.rf, rfl, rfl⟩
theorem agK.tr (h : agK d σ τ) (g : agK d τ υ) : agK d σ υ := ⟨h.1.tr g.1, by rw [g.2.1, h.2.1], by rw [g.2.2, h.2.2]⟩
theorem agF.c (h : agF (d + 1) σ τ) : agK d σ τ := ⟨⟨⟨h.1, fun i hi A h1 h2 => h.2 i (by omega) A h1 h2⟩, h.2 d (by omega) 1353 (by decide) (by decide), h.2 d (by omega) 1356 (by decide) (by decide)⟩, h.2 d (by omega) 1357 (by decide) (by decide), h.2 d (by omega) 1358 (by decide) (by decide)⟩
theorem agF.wk {e : Nat} (h : agF d σ τ) (he : e ≤ d) : agF e σ τ := ⟨h.1, fun i hi A h1 h2 => h.2 i (by omega) A h1 h2⟩
theorem agF.mv {j : Nat} {x : Int32} (hj : j = 32 ∨ j = 36 ∨ j = 38 ∨ j = 44 ∨ j = 46 ∨ j = 52) : agF d σ (uI σ 1315 j x) := ⟨⟨rfl, fun A h1 _ => u_ne h1, fun i hi => by rw [u_at, if_neg (by omega)]⟩, fun i hi A h1 h2 => by rw [u_ne (by omega)]⟩
theorem mQ.ch {k : Nat} (h : mQ b σ p d np nst npr nop T) (hb : b.length ≤ 120) (hk : k < 1000) : f152 F (Int32.ofNat k) σ = oI (b.getD k 0) σ := f152_e h.1 hb (by omega)
theorem tbM.mv {j : Nat} {x : Int32} (h : tbM σ T np nst npr nop) : tbM (uI σ 1315 j x) T np nst npr nop := by
  obtain ⟨h1, h2, h3, h4⟩ := h
  refine ⟨fun k hk => by rw [u_ne (by decide)]; exact h1 k hk, fun s hs => ⟨by rw [u_ne (by decide)]; exact (h2 s hs).1, ?_⟩, fun r hr => by rw [u_ne (by decide)]; exact h3 r hr, fun o ho => by rw [u_ne (by decide), u_ne (by decide), u_ne (by decide), u_ne (by decide)]; exact h4 o ho⟩
  unfold mSt
  rw [u_ne (by decide), u_ne (by decide), u_ne (by decide), u_ne (by decide)]
  exact (h2 s hs).2
theorem mQ.mv {q : Nat} (h : mQ b σ p d np nst npr nop T) (hq : q ≤ b.length) : mQ b (uI σ 1315 32 (Int32.ofNat q)) q d np nst npr nop T := by
  obtain ⟨h1, ⟨h2, h3, h4, h5, h6, h7⟩, h8, h9, h10⟩ := h
  exact ⟨bufM_at h1, ⟨u_eq, by rw [u_at, if_neg (by decide)]; exact h3, by rw [u_at, if_neg (by decide)]; exact h4, by rw [u_at, if_neg (by decide)]; exact h5, by rw [u_at, if_neg (by decide)]; exact h6, by rw [u_at, if_neg (by decide)]; exact h7⟩, h8.mv, h9, hq, h10.2⟩
theorem mQ.dp {e : Nat} (h : mQ b σ p d np nst npr nop T) (he : e ≤ 4) : mQ b (uI σ 1315 52 (Int32.ofNat e)) p e np nst npr nop T := by
  obtain ⟨h1, ⟨h2, h3, h4, h5, h6, h7⟩, h8, h9, h10⟩ := h
  exact ⟨h1.fr (by rw [u_at, if_neg (by decide)]) (u_ne (by decide)), ⟨by rw [u_at, if_neg (by decide)]; exact h2, u_eq, by rw [u_at, if_neg (by decide)]; exact h4, by rw [u_at, if_neg (by decide)]; exact h5, by rw [u_at, if_neg (by decide)]; exact h6, by rw [u_at, if_neg (by decide)]; exact h7⟩, h8.mv, h9, h10.1, he, h10.2.2⟩
/-- a cell of the frames does not matter -/
theorem mQ.fr {A i : Nat} {x : Int32} (h : mQ b σ p d np nst npr nop T) (h1 : 1353 ≤ A) (h2 : A ≤ 1358) : mQ b (uI σ A i x) p d np nst npr nop T := by
  obtain ⟨g1, ⟨g2, g3, g4, g5, g6, g7⟩, ⟨t1, t2, t3, t4⟩, g9, g10⟩ := h
  refine ⟨g1.fr (by rw [u_ne (by omega)]) (u_ne (by omega)), ⟨by rw [u_ne (by omega)]; exact g2, by rw [u_ne (by omega)]; exact g3, by rw [u_ne (by omega)]; exact g4, by rw [u_ne (by omega)]; exact g5, by rw [u_ne (by omega)]; exact g6, by rw [u_ne (by omega)]; exact g7⟩, ⟨fun k hk => by rw [u_ne (by omega)]; exact t1 k hk, fun s hs => ⟨by rw [u_ne (by omega)]; exact (t2 s hs).1, ?_⟩, fun r hr => by rw [u_ne (by omega)]; exact t3 r hr, fun o ho => by rw [u_ne (by omega), u_ne (by omega), u_ne (by omega), u_ne (by omega)]; exact t4 o ho⟩, g9, g10⟩
  unfold mSt
  rw [u_ne (by omega), u_ne (by omega), u_ne (by omega), u_ne (by omega)]
  exact (t2 s hs).2
def adF (T : Tb) (np : Nat) (r : Bool) : Tb := (fun k => if k = np then r else T.1 k, T.2)
def adS (T : Tb) (nst : Nat) (w : Nat × Nat × Nat × Nat × Nat) : Tb := (T.1, fun s => if s = nst then w else T.2.1 s, T.2.2)
def adR (T : Tb) (npr s : Nat) : Tb := (T.1, T.2.1, fun r => if r = npr then s else T.2.2.1 r, T.2.2.2)
def adO (T : Tb) (nop : Nat) (w : Nat × Nat × Nat × Nat) : Tb := (T.1, T.2.1, T.2.2.1, fun o => if o = nop then w else T.2.2.2 o)
theorem Ex.aF {k0 s0 r0 : Nat} {r : Bool} : Ex T (adF T np r) np nst npr nop (np + 1) nst npr nop k0 s0 r0 := ⟨⟨by omega, Nat.le_refl _, Nat.le_refl _, Nat.le_refl _⟩, ⟨fun k hk => if_neg (by omega), fun _ _ => rfl, fun _ _ => rfl, fun _ _ => rfl⟩, fun s h1 h2 => by omega, fun s h1 h2 => by omega, fun s h1 h2 => by omega⟩
theorem Ex.aS {s0 r0 : Nat} {w : Nat × Nat × Nat × Nat × Nat} : Ex T (adS T nst w) np nst npr nop np (nst + 1) npr nop w.1 s0 r0 := ⟨⟨Nat.le_refl _, by omega, Nat.le_refl _, Nat.le_refl _⟩, ⟨fun _ _ => rfl, fun k hk => if_neg (by omega), fun _ _ => rfl, fun _ _ => rfl⟩, fun s h1 h2 => by
  have e : s = nst := by omega
  subst e
  exact Or.inl (by show (if s = s then w else T.2.1 s).1 = _; rw [if_pos rfl]), fun s h1 h2 => by omega, fun s h1 h2 => by omega⟩
theorem Ex.aR {k0 r0 s : Nat} : Ex T (adR T npr s) np nst npr nop np nst (npr + 1) nop k0 s r0 := ⟨⟨Nat.le_refl _, Nat.le_refl _, by omega, Nat.le_refl _⟩, ⟨fun _ _ => rfl, fun _ _ => rfl, fun k hk => if_neg (by omega), fun _ _ => rfl⟩, fun s h1 h2 => by omega, fun r h1 h2 => by
  have e : r = npr := by omega
  subst e
  exact Or.inl (if_pos rfl), fun s h1 h2 => by omega⟩
theorem Ex.aO {k0 s0 : Nat} {w : Nat × Nat × Nat × Nat} : Ex T (adO T nop w) np nst npr nop np nst npr (nop + 1) k0 s0 w.1 := ⟨⟨Nat.le_refl _, Nat.le_refl _, Nat.le_refl _, by omega⟩, ⟨fun _ _ => rfl, fun _ _ => rfl, fun _ _ => rfl, fun k hk => if_neg (by omega)⟩, fun s h1 h2 => by omega, fun s h1 h2 => by omega, fun s h1 h2 => by
  have e : s = nop := by omega
  subst e
  exact Or.inl (by show (if s = s then w else T.2.2.2 s).1 = _; rw [if_pos rfl])⟩
/-- addStep -/
theorem f209_e {k a t f n : Nat} (h : mQ b σ p d np nst npr nop T) (hn : nst ≤ 120) (hk : σ.1 1354 d = Int32.ofNat k) (hkn : k < np) (hs : stOk b a t f n) : ∃ τ, f209 F (Int32.ofNat a) (Int32.ofNat t) (Int32.ofNat f) (Int32.ofNat n) σ = oV τ ∧ mQ b τ p d np (nst + 1) npr nop (adS T nst (k, a, t, f, n)) ∧ agK d σ τ ∧ τ.1 1354 d = Int32.ofNat k ∧ τ.1 1355 d = Int32.ofNat nst := by
  obtain ⟨g1, ⟨g2, g3, g4, g5, g6, g7⟩, ⟨t1, t2, t3, t4⟩, ⟨w1, w2, w3⟩, g10⟩ := h
  have hd := g10.2.1
  have i1 : inB (Int32.ofNat nst) 130 := oN_rg (by omega) (by decide)
  have i2 : inB (Int32.ofNat d) 6 := oN_rg (by omega) (by decide)
  have n1 := oN_n (show nst < 2147483648 by omega)
  have n2 := oN_n (show d < 2147483648 by omega)
  refine ⟨uI (uI (uI (uI (uI (uI (uI σ 1342 nst (Int32.ofNat k)) 1343 nst (Int32.ofNat a)) 1344 nst (Int32.ofNat t)) 1345 nst (Int32.ofNat f)) 1346 nst (Int32.ofNat n)) 1355 d (Int32.ofNat nst)) 1315 38 (Int32.ofNat (nst + 1)), ?_, ⟨?_, ⟨?_, ?_, ?_, u_eq, ?_, ?_⟩, ⟨?_, ?_, ?_, ?_⟩, ⟨?_, ?_, ?_⟩, g10.1, g10.2.1, g10.2.2.1, by omega, g10.2.2.2.2⟩, ?_, ?_, ?_⟩
  · unfold f209
    simp only [ltE, xI1, g5, g3, if_pos i1, if_pos i2, n1, n2, hk]
    simp only [reduceCtorEq, Nat.reduceEqDiff, false_and, if_false, if_pos i1, if_pos i2, n1, n2, hk, g5, g3, oN_p1]
  · exact g1.fr (by simp only [xI1]; repeat rw [if_neg (by omega)]) (by rw [u_ne (by decide), u_ne (by decide), u_ne (by decide), u_ne (by decide), u_ne (by decide), u_ne (by decide), u_ne (by decide)])
  · simp only [xI1]
    repeat rw [if_neg (by omega)]
    exact g2
  · simp only [xI1]
    repeat rw [if_neg (by omega)]
    exact g3
  · simp only [xI1]
    repeat rw [if_neg (by omega)]
    exact g4
  · simp only [xI1]
    repeat rw [if_neg (by omega)]
    exact g6
  · simp only [xI1]
    repeat rw [if_neg (by omega)]
    exact g7
  · intro z hz
    simp only [xI1]
    repeat rw [if_neg (by omega)]
    exact t1 z hz
  · intro s hs2
    unfold mSt adS
    dsimp only
    by_cases c : s = nst
    · subst c
      rw [if_pos rfl]
      simp [xI1]
    · rw [if_neg c]
      simp only [xI1]
      repeat rw [if_neg (by omega)]
      exact t2 s (by omega)
  · intro z hz
    simp only [xI1]
    repeat rw [if_neg (by omega)]
    exact t3 z hz
  · intro z hz
    simp only [xI1]
    repeat rw [if_neg (by omega)]
    exact t4 z hz
  · intro s hs2
    unfold adS
    dsimp only
    by_cases c : s = nst
    · rw [if_pos c]
      exact ⟨hkn, hs⟩
    · rw [if_neg c]
      exact w1 s (by omega)
  · intro r hr
    have := w2 r hr
    show T.2.2.1 r < nst + 1
    omega
  · intro o ho
    obtain ⟨q1, q2, q3, q4, q5⟩ := w3 o ho
    refine ⟨q1, q2, q3, q4, fun q => ⟨(q5 q).1, ?_⟩⟩
    have := w2 _ q1
    show (if T.2.2.1 (T.2.2.2 o).1 = nst then (k, a, t, f, n) else T.2.1 (T.2.2.1 (T.2.2.2 o).1)).1 < _
    rw [if_neg (by omega)]
    exact (q5 q).2
  · refine ⟨⟨⟨⟨rfl, fun A h1 h2 => ?_, fun j hj => ?_⟩, fun i hi A h1 h2 => ?_⟩, ?_, ?_⟩, ?_, ?_⟩
    · rw [u_ne (by omega), u_ne (by omega), u_ne (by omega), u_ne (by omega), u_ne (by omega), u_ne (by omega), u_ne (by omega)]
    · simp only [xI1]
      repeat rw [if_neg (by omega)]
    · simp only [xI1]
      repeat rw [if_neg (by omega)]
    · simp only [xI1]
      repeat rw [if_neg (by omega)]
    · simp only [xI1]
      repeat rw [if_neg (by omega)]
    · simp only [xI1]
      repeat rw [if_neg (by omega)]
    · simp only [xI1]
      repeat rw [if_neg (by omega)]
  · simp only [xI1]
    repeat rw [if_neg (by omega)]
    exact hk
  · simp [xI1]
end RRL
