/-! emit, frames, new paths, new predicates -/
section RR2
variable {F p d np nst npr nop : Nat} {b : List Int32} {T : Tb} {σ τ υ : St}
/-- emit -/
theorem f221_e {r kd ar ln : Nat} (h : mQ b σ p d np nst npr nop T) (hn : nop ≤ 120) (hr : σ.1 1356 d = Int32.ofNat r) (hw : opW b T np npr (r, kd, ar, ln)) : ∃ τ, f221 F (Int32.ofNat kd) (Int32.ofNat ar) (Int32.ofNat ln) σ = oV τ ∧ mQ b τ p d np nst npr (nop + 1) (adO T nop (r, kd, ar, ln)) ∧ agF 6 σ τ := by
  obtain ⟨g1, ⟨g2, g3, g4, g5, g6, g7⟩, ⟨t1, t2, t3, t4⟩, ⟨w1, w2, w3⟩, g10⟩ := h
  have hd := g10.2.1
  have i1 : inB (Int32.ofNat nop) 130 := oN_rg (by omega) (by decide)
  have i2 : inB (Int32.ofNat d) 6 := oN_rg (by omega) (by decide)
  have n1 := oN_n (show nop < 2147483648 by omega)
  have n2 := oN_n (show d < 2147483648 by omega)
  refine ⟨uI (uI (uI (uI (uI σ 1348 nop (Int32.ofNat r)) 1349 nop (Int32.ofNat kd)) 1350 nop (Int32.ofNat ar)) 1351 nop (Int32.ofNat ln)) 1315 46 (Int32.ofNat (nop + 1)), ?_, ⟨?_, ⟨?_, ?_, ?_, ?_, ?_, u_eq⟩, ⟨?_, ?_, ?_, ?_⟩, ⟨w1, w2, ?_⟩, g10.1, g10.2.1, g10.2.2.1, g10.2.2.2.1, g10.2.2.2.2.1, by omega⟩, ⟨rfl, fun A h1 h2 => ?_, fun j hj => ?_⟩, fun i hi A h1 h2 => ?_⟩
  · unfold f221
    simp only [ltE, xI1, g7, g3, if_pos i1, if_pos i2, n1, n2, hr]
    simp only [reduceCtorEq, Nat.reduceEqDiff, false_and, if_false, if_pos i1, if_pos i2, n1, n2, hr, g7, g3, oN_p1]
  · exact g1.fr (by simp only [xI1]; repeat rw [if_neg (by omega)]) (by rw [u_ne (by decide), u_ne (by decide), u_ne (by decide), u_ne (by decide), u_ne (by decide)])
  · simp only [xI1]
    repeat rw [if_neg (by omega)]
    exact g2
  · simp only [xI1]
    repeat rw [if_neg (by omega)]
    exact g3
  · simp only [xI1]
    repeat rw [if_neg (by omega)]
    exact g4
  · simp only [xI1]
    repeat rw [if_neg (by omega)]
    exact g5
  · simp only [xI1]
    repeat rw [if_neg (by omega)]
    exact g6
  · intro z hz
    simp only [xI1]
    repeat rw [if_neg (by omega)]
    exact t1 z hz
  · intro z hz
    unfold mSt
    simp only [xI1]
    repeat rw [if_neg (by omega)]
    exact t2 z hz
  · intro z hz
    simp only [xI1]
    repeat rw [if_neg (by omega)]
    exact t3 z hz
  · intro s hs2
    unfold adO
    dsimp only
    by_cases c : s = nop
    · subst c
      rw [if_pos rfl]
      simp [xI1]
    · rw [if_neg c]
      simp only [xI1]
      repeat rw [if_neg (by omega)]
      exact t4 s (by omega)
  · intro o ho
    show opW b _ np npr (if o = nop then (r, kd, ar, ln) else T.2.2.2 o)
    by_cases c : o = nop
    · rw [if_pos c]
      exact hw
    · rw [if_neg c]
      exact w3 o (by omega)
  · rw [u_ne (by omega), u_ne (by omega), u_ne (by omega), u_ne (by omega), u_ne (by omega)]
  · simp only [xI1]
    repeat rw [if_neg (by omega)]
  · simp only [xI1]
    repeat rw [if_neg (by omega)]
/-- openFrame -/
theorem f218_e {k r : Nat} (h : mQ b σ p d np nst npr nop T) (hd : d < 4) : ∃ τ, f218 F (Int32.ofNat k) (Int32.ofNat r) σ = oV τ ∧ mQ b τ p (d + 1) np nst npr nop T ∧ agF (d + 1) σ τ ∧ τ.1 1353 (d + 1) = Int32.ofNat k ∧ τ.1 1356 (d + 1) = Int32.ofNat r ∧ τ.1 1357 (d + 1) = 0 ∧ τ.1 1358 (d + 1) = 0 := by
  have g3 := h.2.1.2.1
  have i2 : inB (Int32.ofNat (d + 1)) 6 := oN_rg (by omega) (by decide)
  have n2 := oN_n (show d + 1 < 2147483648 by omega)
  refine ⟨uI (uI (uI (uI (uI σ 1315 52 (Int32.ofNat (d + 1))) 1353 (d + 1) (Int32.ofNat k)) 1356 (d + 1) (Int32.ofNat r)) 1357 (d + 1) 0) 1358 (d + 1) 0, ?_, ((((h.dp (e := d + 1) (by omega)).fr (by decide) (by decide)).fr (by decide) (by decide)).fr (by decide) (by decide)).fr (by decide) (by decide), ⟨⟨rfl, fun A h1 h2 => ?_, fun j hj => ?_⟩, fun i hi A h1 h2 => ?_⟩, ?_, ?_, ?_, ?_⟩
  · unfold f218
    simp only [ltE, xI1, g3, oN_p1]
    simp only [reduceCtorEq, Nat.reduceEqDiff, false_and, if_false, and_self, if_true, if_pos i2, n2]
  · rw [u_ne (by omega), u_ne (by omega), u_ne (by omega), u_ne (by omega), u_ne (by omega)]
  · simp only [xI1]
    repeat rw [if_neg (by omega)]
  · simp only [xI1]
    repeat rw [if_neg (by omega)]
  · simp [xI1]
  · simp [xI1]
  · simp [xI1]
  · simp [xI1]
theorem f210_e {c : Int32} : f210 F c σ = oI (b2i (bgS c)) σ := by
  unfold f210 bgS
  rw [f156_e, cIo, ifb]
  by_cases h : isLet c = true
  · rw [if_pos h, h]
    simp [b2i]
  · rw [if_neg h]
    rw [Bool.not_eq_true] at h
    rw [h]
    by_cases h1 : c = 46 <;> by_cases h2 : c = 64 <;> by_cases h3 : c = 42 <;> simp [h1, h2, h3, b2i]
theorem nar_b : vp_nar .boolean 0 = 0 ∧ vp_nar .boolean 1 = 1 := by decide
/-- a path begins -/
theorem nwF {r : Bool} (h : mQ b σ p d np nst npr nop T) (hn : np ≤ 120) : mQ b (uI (uI (uI σ 1354 d (Int32.ofNat np)) 1341 np (b2i r)) 1315 36 (Int32.ofNat (np + 1))) p d (np + 1) nst npr nop (adF T np r) ∧ agK d σ (uI (uI (uI σ 1354 d (Int32.ofNat np)) 1341 np (b2i r)) 1315 36 (Int32.ofNat (np + 1))) ∧ (uI (uI (uI σ 1354 d (Int32.ofNat np)) 1341 np (b2i r)) 1315 36 (Int32.ofNat (np + 1))).1 1354 d = Int32.ofNat np := by
  obtain ⟨g1, ⟨g2, g3, g4, g5, g6, g7⟩, ⟨t1, t2, t3, t4⟩, ⟨w1, w2, w3⟩, g10⟩ := h
  refine ⟨⟨?_, ⟨?_, ?_, u_eq, ?_, ?_, ?_⟩, ⟨?_, ?_, ?_, ?_⟩, ⟨fun s hs => ⟨by have := (w1 s hs).1; show (T.2.1 s).1 < np + 1; omega, (w1 s hs).2⟩, w2, fun o ho => ?_⟩, g10.1, g10.2.1, by omega, g10.2.2.2⟩, ⟨⟨⟨⟨rfl, fun A h1 h2 => ?_, fun j hj => ?_⟩, fun i hi A h1 h2 => ?_⟩, ?_, ?_⟩, ?_, ?_⟩, ?_⟩
  · exact g1.fr (by simp only [xI1]; repeat rw [if_neg (by omega)]) (by rw [u_ne (by decide), u_ne (by decide), u_ne (by decide)])
  · simp only [xI1]
    repeat rw [if_neg (by omega)]
    exact g2
  · simp only [xI1]
    repeat rw [if_neg (by omega)]
    exact g3
  · simp only [xI1]
    repeat rw [if_neg (by omega)]
    exact g5
  · simp only [xI1]
    repeat rw [if_neg (by omega)]
    exact g6
  · simp only [xI1]
    repeat rw [if_neg (by omega)]
    exact g7
  · intro s hs2
    unfold adF
    dsimp only
    by_cases c : s = np
    · subst c
      rw [if_pos rfl]
      simp [xI1]
    · rw [if_neg c]
      simp only [xI1]
      repeat rw [if_neg (by omega)]
      exact t1 s (by omega)
  · intro z hz
    unfold mSt
    simp only [xI1]
    repeat rw [if_neg (by omega)]
    exact t2 z hz
  · intro z hz
    simp only [xI1]
    repeat rw [if_neg (by omega)]
    exact t3 z hz
  · intro z hz
    simp only [xI1]
    repeat rw [if_neg (by omega)]
    exact t4 z hz
  · obtain ⟨q1, q2, q3, q4, q5⟩ := w3 o ho
    exact ⟨q1, q2, q3, q4, fun q => ⟨Nat.lt_succ_of_lt (q5 q).1, (q5 q).2⟩⟩
  · rw [u_ne (by omega), u_ne (by omega), u_ne (by omega)]
  · simp only [xI1]
    repeat rw [if_neg (by omega)]
  · simp only [xI1]
    repeat rw [if_neg (by omega)]
  · simp only [xI1]
    repeat rw [if_neg (by omega)]
  · simp only [xI1]
    repeat rw [if_neg (by omega)]
  · simp only [xI1]
    repeat rw [if_neg (by omega)]
  · simp only [xI1]
    repeat rw [if_neg (by omega)]
  · simp [xI1]
/-- a predicate begins -/
theorem nwR {s : Nat} (h : mQ b σ p d np nst npr nop T) (hn : npr ≤ 120) (hs : s < nst) : mQ b (uI (uI σ 1347 npr (Int32.ofNat s)) 1315 44 (Int32.ofNat (npr + 1))) p d np nst (npr + 1) nop (adR T npr s) ∧ agF 6 σ (uI (uI σ 1347 npr (Int32.ofNat s)) 1315 44 (Int32.ofNat (npr + 1))) := by
  obtain ⟨g1, ⟨g2, g3, g4, g5, g6, g7⟩, ⟨t1, t2, t3, t4⟩, ⟨w1, w2, w3⟩, g10⟩ := h
  refine ⟨⟨?_, ⟨?_, ?_, ?_, ?_, u_eq, ?_⟩, ⟨?_, ?_, ?_, ?_⟩, ⟨w1, ?_, fun o ho => ?_⟩, g10.1, g10.2.1, g10.2.2.1, g10.2.2.2.1, by omega, g10.2.2.2.2.2⟩, ⟨rfl, fun A h1 h2 => ?_, fun j hj => ?_⟩, fun i hi A h1 h2 => ?_⟩
  · exact g1.fr (by simp only [xI1]; repeat rw [if_neg (by omega)]) (by rw [u_ne (by decide), u_ne (by decide)])
  · simp only [xI1]
    repeat rw [if_neg (by omega)]
    exact g2
  · simp only [xI1]
    repeat rw [if_neg (by omega)]
    exact g3
  · simp only [xI1]
    repeat rw [if_neg (by omega)]
    exact g4
  · simp only [xI1]
    repeat rw [if_neg (by omega)]
    exact g5
  · simp only [xI1]
    repeat rw [if_neg (by omega)]
    exact g7
  · intro z hz
    simp only [xI1]
    repeat rw [if_neg (by omega)]
    exact t1 z hz
  · intro z hz
    unfold mSt
    simp only [xI1]
    repeat rw [if_neg (by omega)]
    exact t2 z hz
  · intro z hz
    unfold adR
    dsimp only
    by_cases c : z = npr
    · subst c
      rw [if_pos rfl]
      simp [xI1]
    · rw [if_neg c]
      simp only [xI1]
      repeat rw [if_neg (by omega)]
      exact t3 z (by omega)
  · intro z hz
    simp only [xI1]
    repeat rw [if_neg (by omega)]
    exact t4 z hz
  · intro r hr
    show (if r = npr then s else T.2.2.1 r) < nst
    by_cases c : r = npr
    · rw [if_pos c]
      exact hs
    · rw [if_neg c]
      exact w2 r (by omega)
  · obtain ⟨q1, q2, q3, q4, q5⟩ := w3 o ho
    refine ⟨Nat.lt_succ_of_lt q1, q2, q3, q4, fun q => ⟨(q5 q).1, ?_⟩⟩
    show (T.2.1 (if (T.2.2.2 o).1 = npr then s else T.2.2.1 (T.2.2.2 o).1)).1 < _
    rw [if_neg (by omega)]
    exact (q5 q).2
  · rw [u_ne (by omega), u_ne (by omega)]
  · simp only [xI1]
    repeat rw [if_neg (by omega)]
  · simp only [xI1]
    repeat rw [if_neg (by omega)]
end RR2
