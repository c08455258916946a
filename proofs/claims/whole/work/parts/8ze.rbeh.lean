/-! THE REFERENCE READS: behind a value -/
def adC (T : Tb) (nop r co : Nat) : Tb := if co = 0 then T else adO T nop (r, co, 0, 0)
def nxC (nop co : Nat) : Nat := if co = 0 then nop else nop + 1
section RBH
variable {F p d np nst npr nop : Nat} {b : List Int32} {T : Tb} {σ τ υ : St}
theorem opW_b {r kd : Nat} (hr : r < npr) (h1 : 6 ≤ kd) (h2 : kd ≤ 12) : opW b T np npr (r, kd, 0, 0) := ⟨hr, h2, fun _ => by show (0 : Nat) < 1000000; omega, fun _ => by show 0 + 0 ≤ b.length; omega, fun q => by
  have q : kd = 4 ∨ kd = 5 := q
  omega⟩
/-- the pending sum is emitted -/
theorem f225_A {r su : Nat} (h : mQ b σ p d np nst npr nop T) (hn : nop ≤ 120) (hr : σ.1 1356 d = Int32.ofNat r) (hrn : r < npr) (hs : σ.1 1357 d = Int32.ofNat su) (hsu : su = 0 ∨ su = 7 ∨ su = 8) : ∃ τ, f225 F σ = f225_37 F τ ∧ mQ b τ p d np nst npr (nxC nop su) (adC T nop r su) ∧ agR d σ τ ∧ τ.1 1357 d = 0 ∧ τ.1 1358 d = σ.1 1358 d := by
  have hd := h.2.2.2.2.2.1
  have i2 : inB (Int32.ofNat d) 6 := oN_rg (by omega) (by decide)
  have n2 := oN_n (show d < 2147483648 by omega)
  unfold f225 nxC adC
  simp only [ltE, h.2.1.2.1, if_pos i2, n2, hs]
  by_cases c : su = 0
  · rw [if_pos c, if_pos c, if_pos (by rw [c]; rfl)]
    rw [c] at hs
    exact ⟨σ, rfl, h, agR.rf, hs, rfl⟩
  · obtain ⟨τ, t1, t2, t3⟩ := f221_e (F := F) (kd := su) (ar := 0) (ln := 0) h hn hr (opW_b hrn (by omega) (by omega))
    rw [if_neg c, if_neg c, if_neg (fun g => c ((oE0 (by omega)).mp g)), show f221 F (Int32.ofNat su) 0 0 σ = oV τ from t1, cVo, t2.2.1.2.1, if_pos i2]
    simp only [n2]
    have k := (t3.wk (e := d + 1) (by omega)).c
    refine ⟨uI τ 1357 d 0, rfl, t2.fr (by decide) (by decide), ⟨⟨⟨k.1.1.1.1, fun A h1 h2 => ?_, fun j hj => ?_⟩, fun i hi A h1 h2 => ?_⟩, ?_, ?_⟩, u_eq, ?_⟩
    · rw [u_ne (by omega)]
      exact k.1.1.1.2.1 A h1 h2
    · rw [u_ne (by decide)]
      exact k.1.1.1.2.2 j hj
    · rw [xI1, if_neg (by omega)]
      exact k.1.1.2 i hi A h1 h2
    · rw [u_ne (by decide)]
      exact k.1.2.1
    · rw [u_ne (by decide)]
      exact k.1.2.2
    · rw [u_ne (by decide)]
      exact k.2.2
theorem agR.i {A : Nat} {x : Int32} (hA : A = 1357 ∨ A = 1358) : agR d σ (uI σ A d x) := by
  refine ⟨⟨⟨rfl, fun B h1 h2 => u_ne (by omega), fun j hj => by rw [u_ne (by omega)]⟩, fun i hi B h1 h2 => ?_⟩, by rw [u_ne (by omega)], by rw [u_ne (by omega)]⟩
  rw [xI1, if_neg (by omega)]
/-- a sign -/
theorem f225_S (hb : b.length ≤ 120) (h : mQ b σ p d np nst npr nop T) (hc : b.getD p 0 = 43 ∨ b.getD p 0 = 45) : ∃ τ, f225_37 F σ = oI 6 τ ∧ mQ b τ (p + 1) d np nst npr nop T ∧ agR d σ τ ∧ τ.1 1357 d = Int32.ofNat (if b.getD p 0 = 45 then 8 else 7) ∧ τ.1 1358 d = σ.1 1358 d := by
  have hp := h.2.2.2.2.1
  have hd := h.2.2.2.2.2.1
  have i2 : inB (Int32.ofNat d) 6 := oN_rg (by omega) (by decide)
  have n2 := oN_n (show d < 2147483648 by omega)
  have hl : p < b.length := by
    rcases hc with c | c
    · exact ch_lt c (by decide)
    · exact ch_lt c (by decide)
  have m := h.mv (q := p + 1) (by omega)
  have a1 : agR d σ (uI σ 1315 32 (Int32.ofNat (p + 1))) := (agF.mv (d := d + 1) (Or.inl rfl)).c.1
  have c8 : (uI σ 1315 32 (Int32.ofNat (p + 1))).1 1358 d = σ.1 1358 d := by rw [u_ne (by decide)]
  unfold f225_37
  rw [ltE, h.2.1.1, h.ch hb (by omega), cIo]
  by_cases c : b.getD p 0 = 43
  · rw [if_pos c]
    unfold f225_58
    rw [ltE, h.2.1.1, oN_p1, ltE, ltE, m.2.1.2.1, if_pos c, if_pos i2, n2, ltE, if_neg (show ¬ b.getD p 0 = 45 by rw [c]; decide)]
    exact ⟨_, rfl, m.fr (by decide) (by decide), a1.tr (agR.i (Or.inl rfl)), u_eq, by rw [u_ne (by decide)]; exact c8⟩
  · have c2 : b.getD p 0 = 45 := hc.elim (fun q => absurd q c) id
    rw [if_neg c, if_pos c2]
    unfold f225_58
    rw [ltE, h.2.1.1, oN_p1, ltE, ltE, m.2.1.2.1, if_neg c, if_pos i2, n2, ltE, if_pos c2]
    exact ⟨_, rfl, m.fr (by decide) (by decide), a1.tr (agR.i (Or.inl rfl)), u_eq, by rw [u_ne (by decide)]; exact c8⟩
/-- a comparison -/
theorem f225_C {o q : Nat} (hb : b.length ≤ 120) (h : mQ b σ p d np nst npr nop T) (hco : σ.1 1358 d = 0) (hc : cmO b p = some (some o, q)) : ∃ τ, f225_37 F σ = oI 6 τ ∧ mQ b τ q d np nst npr nop T ∧ agR d σ τ ∧ τ.1 1357 d = σ.1 1357 d ∧ τ.1 1358 d = Int32.ofNat (9 + o) := by
  have hp := h.2.2.2.2.1
  have hd := h.2.2.2.2.2.1
  have i2 : inB (Int32.ofNat d) 6 := oN_rg (by omega) (by decide)
  have n2 := oN_n (show d < 2147483648 by omega)
  have fin : ∀ (y1 y2 : Int32) (w o2 : Nat), p + w ≤ b.length → (if y2 = 0 then (1 : Int32) else 2) = Int32.ofNat w → (if y2 = 0 then (if y1 = 61 then (9 : Int32) else if y1 = 60 then 11 else 12) else 10) = Int32.ofNat (9 + o2) → ∃ τ, f225_154 F y1 y2 σ = oI 6 τ ∧ mQ b τ (p + w) d np nst npr nop T ∧ agR d σ τ ∧ τ.1 1357 d = σ.1 1357 d ∧ τ.1 1358 d = Int32.ofNat (9 + o2) := by
    intro y1 y2 w o2 hw h1 h2
    have m := h.mv hw
    have a1 : agR d σ (uI σ 1315 32 (Int32.ofNat (p + w))) := (agF.mv (d := d + 1) (Or.inl rfl)).c.1
    refine ⟨uI (uI σ 1315 32 (Int32.ofNat (p + w))) 1358 d (Int32.ofNat (9 + o2)), ?_, m.fr (by decide) (by decide), a1.tr (agR.i (Or.inr rfl)), by rw [u_ne (by decide), u_ne (by decide)], u_eq⟩
    unfold f225_154
    rw [ltE, h.2.1.1]
    by_cases c : y2 = 0
    · rw [if_pos c] at h1 h2
      rw [if_pos c]
      unfold f225_168
      rw [h1, oN_ad, ltE, ltE, m.2.1.2.1, if_pos c]
      by_cases c1 : y1 = 61
      · rw [if_pos c1] at h2
        rw [if_pos c1, if_pos i2, n2, ltE, h2]
      · rw [if_neg c1] at h2
        rw [if_neg c1]
        by_cases c2 : y1 = 60
        · rw [if_pos c2] at h2
          rw [if_pos c2, if_pos i2, n2, ltE, h2]
        · rw [if_neg c2] at h2
          rw [if_neg c2, if_pos i2, n2, ltE, h2]
    · rw [if_neg c] at h1 h2
      rw [if_neg c]
      unfold f225_168
      rw [h1, oN_ad, ltE, ltE, m.2.1.2.1, if_neg c, if_pos i2, n2, ltE, h2]
  unfold f225_37
  rw [ltE, h.2.1.1, h.ch hb (by omega), cIo]
  unfold cmO at hc
  by_cases c1 : b.getD p 0 = 61
  · have hl := ch_lt c1 (by decide)
    rw [if_pos c1] at hc
    injection hc with hc
    injection hc with hc1 hc2
    injection hc1 with hc1
    subst hc1 hc2
    rw [if_neg (by rw [c1]; decide), if_neg (by rw [c1]; decide), if_neg (by rw [c1]; decide)]
    unfold f225_118 f225_119
    rw [ltE, h.2.1.2.1, if_pos i2, n2, ltE, hco, if_pos rfl, if_pos c1]
    exact fin _ 0 1 0 (by omega) rfl (by rw [if_pos rfl, if_pos c1]; rfl)
  · rw [if_neg c1] at hc
    by_cases c2 : b.getD p 0 = 60
    · have hl := ch_lt c2 (by decide)
      rw [if_pos c2] at hc
      injection hc with hc
      injection hc with hc1 hc2
      injection hc1 with hc1
      subst hc1 hc2
      rw [if_neg (by rw [c2]; decide), if_neg (by rw [c2]; decide), if_neg (by rw [c2]; decide)]
      unfold f225_118 f225_119
      rw [ltE, h.2.1.2.1, if_pos i2, n2, ltE, hco, if_pos rfl, if_neg c1, if_pos c2]
      exact fin _ 0 1 2 (by omega) rfl (by rw [if_pos rfl, if_neg c1, if_pos c2]; rfl)
    · rw [if_neg c2] at hc
      by_cases c3 : b.getD p 0 = 62
      · have hl := ch_lt c3 (by decide)
        rw [if_pos c3] at hc
        injection hc with hc
        injection hc with hc1 hc2
        injection hc1 with hc1
        subst hc1 hc2
        rw [if_neg (by rw [c3]; decide), if_neg (by rw [c3]; decide), if_neg (by rw [c3]; decide)]
        unfold f225_118 f225_119
        rw [ltE, h.2.1.2.1, if_pos i2, n2, ltE, hco, if_pos rfl, if_neg c1, if_neg c2, if_pos c3]
        exact fin _ 0 1 3 (by omega) rfl (by rw [if_pos rfl, if_neg c1, if_neg c2]; rfl)
      · rw [if_neg c3] at hc
        by_cases c4 : b.getD p 0 = 33
        · rw [if_pos c4] at hc
          by_cases c5 : b.getD (p + 1) 0 = 61
          · have hl := ch_lt c5 (by decide)
            rw [if_pos c5] at hc
            injection hc with hc
            injection hc with hc1 hc2
            injection hc1 with hc1
            subst hc1 hc2
            rw [if_neg (by rw [c4]; decide), if_neg (by rw [c4]; decide), if_pos c4, ltE, h.2.1.1, oN_p1, h.ch hb (by omega), cIo, if_pos c5]
            unfold f225_119
            rw [ltE, h.2.1.2.1, if_pos i2, n2, ltE, hco, if_pos rfl, if_neg c1, if_neg c2, if_neg c3, if_neg (show ¬ (1 : Int32) = 0 by decide)]
            exact fin _ 1 2 1 (by omega) rfl rfl
          · rw [if_neg c5] at hc
            cases hc
        · rw [if_neg c4] at hc
          injection hc with hc
          injection hc with hc1 hc2
          cases hc1
/-- the end of an expression -/
theorem f225_E {r co : Nat} (hb : b.length ≤ 120) (h : mQ b σ p (d + 1) np nst npr nop T) (hn : nop ≤ 120) (hr : σ.1 1356 (d + 1) = Int32.ofNat r) (hrn : r < npr) (hco : σ.1 1358 (d + 1) = Int32.ofNat co) (hcc : co = 0 ∨ (9 ≤ co ∧ co ≤ 12)) (hs : ¬ (b.getD p 0 = 43 ∨ b.getD p 0 = 45)) (hc : ¬ co = 0 ∨ ∀ o q, ¬ cmO b p = some (some o, q)) : (σ.1 1353 (d + 1) = 1 → (b.getD p 0 = 93 → ∃ τ, f225_37 F σ = oI 3 τ ∧ mQ b τ (p + 1) d np nst npr (nxC nop co) (adC T nop r co) ∧ agF 6 σ τ) ∧ (¬ b.getD p 0 = 93 → ∃ τ, f225_37 F σ = oI 8 τ ∧ agR0 σ τ)) ∧ (∀ r2, σ.1 1353 (d + 1) = 3 → σ.1 1356 d = Int32.ofNat r2 → r2 < npr → nxC nop co ≤ 120 → (b.getD p 0 = 41 → ∃ τ, f225_37 F σ = oI 7 τ ∧ mQ b τ (p + 1) d np nst npr (nxC nop co + 1) (adO (adC T nop r co) (nxC nop co) (r2, 6, 0, 0)) ∧ agF 6 σ τ) ∧ (¬ b.getD p 0 = 41 → ∃ τ, f225_37 F σ = oI 8 τ ∧ agR0 σ τ)) := by
  have hp := h.2.2.2.2.1
  have hd := h.2.2.2.2.2.1
  have i2 : inB (Int32.ofNat (d + 1)) 6 := oN_rg (by omega) (by decide)
  have n2 := oN_n (show d + 1 < 2147483648 by omega)
  -- the comparison is emitted
  have e1 : ∃ σ1, f225_37 F σ = f225_244 F (b.getD p 0) σ1 ∧ mQ b σ1 p (d + 1) np nst npr (nxC nop co) (adC T nop r co) ∧ agF 6 σ σ1 := by
    have e217 : ∃ σ1, f225_217 F (b.getD p 0) σ = f225_244 F (b.getD p 0) σ1 ∧ mQ b σ1 p (d + 1) np nst npr (nxC nop co) (adC T nop r co) ∧ agF 6 σ σ1 := by
      unfold f225_217 nxC adC
      simp only [ltE, h.2.1.2.1, if_pos i2, n2, hco]
      by_cases c : co = 0
      · rw [if_pos c, if_pos c, if_pos (by rw [c]; rfl)]
        exact ⟨σ, rfl, h, agF.rf⟩
      · obtain ⟨τ, t1, t2, t3⟩ := f221_e (F := F) (kd := co) (ar := 0) (ln := 0) h hn hr (opW_b hrn (by omega) (by omega))
        rw [if_neg c, if_neg c, if_neg (fun g => c ((oE0 (by omega)).mp g)), show f221 F (Int32.ofNat co) 0 0 σ = oV τ from t1, cVo]
        exact ⟨τ, rfl, t2, t3⟩
    have e119 : ∀ z0 : Int32, (¬ co = 0 ∨ (¬ b.getD p 0 = 61 ∧ ¬ b.getD p 0 = 60 ∧ ¬ b.getD p 0 = 62 ∧ z0 = 0)) → f225_119 F (b.getD p 0) z0 σ = f225_217 F (b.getD p 0) σ := by
      intro z0 hz
      unfold f225_119
      rw [ltE, h.2.1.2.1, if_pos i2, n2, ltE, hco]
      by_cases c : co = 0
      · rcases hz with q | ⟨q1, q2, q3, q4⟩
        · exact absurd c q
        · rw [if_pos (by rw [c]; rfl), if_neg q1, if_neg q2, if_neg q3, if_pos q4]
      · rw [if_neg (fun g => c ((oE0 (by omega)).mp g))]
    have e37 : f225_37 F σ = f225_217 F (b.getD p 0) σ := by
      unfold f225_37
      rw [ltE, h.2.1.1, h.ch hb (by omega), cIo, if_neg (fun q => hs (Or.inl q)), if_neg (fun q => hs (Or.inr q))]
      unfold f225_118
      by_cases c : co = 0
      · have hc2 : ∀ o q, ¬ cmO b p = some (some o, q) := hc.elim (fun q => absurd c q) id
        have q1 : ¬ b.getD p 0 = 61 := fun q => hc2 0 (p + 1) (by unfold cmO; rw [if_pos q])
        have q2 : ¬ b.getD p 0 = 60 := fun q => hc2 2 (p + 1) (by unfold cmO; rw [if_neg q1, if_pos q])
        have q3 : ¬ b.getD p 0 = 62 := fun q => hc2 3 (p + 1) (by unfold cmO; rw [if_neg q1, if_neg q2, if_pos q])
        by_cases c4 : b.getD p 0 = 33
        · have q5 : ¬ b.getD (p + 1) 0 = 61 := fun q => hc2 1 (p + 2) (by unfold cmO; rw [if_neg q1, if_neg q2, if_neg q3, if_pos c4, if_pos q])
          rw [if_pos c4, ltE, h.2.1.1, oN_p1, h.ch hb (by omega), cIo, if_neg q5]
          exact e119 0 (Or.inr ⟨q1, q2, q3, rfl⟩)
        · rw [if_neg c4]
          exact e119 0 (Or.inr ⟨q1, q2, q3, rfl⟩)
      · by_cases c4 : b.getD p 0 = 33
        · rw [if_pos c4, ltE, h.2.1.1, oN_p1, h.ch hb (by omega), cIo]
          split
          · exact e119 1 (Or.inl c)
          · exact e119 0 (Or.inl c)
        · rw [if_neg c4]
          exact e119 0 (Or.inl c)
    rw [e37]
    exact e217
  obtain ⟨σ1, k1, k2, k3⟩ := e1
  have fr1 : σ1.1 1353 (d + 1) = σ.1 1353 (d + 1) := k3.2 (d + 1) (by omega) 1353 (by decide) (by decide)
  rw [k1]
  unfold f225_244 f225_265 f225_299
  simp only [ltE, k2.2.1.2.1, if_pos i2, n2, fr1, k2.2.1.1, oN_p1]
  refine ⟨fun hf => ?_, fun r2 hf hr2 hr2n hn2 => ?_⟩
  · simp only [hf]
    refine ⟨fun c => ?_, fun c => ?_⟩
    · have hl := ch_lt c (by decide)
      have m := k2.mv (q := p + 1) (by omega)
      have fr2 : (uI σ1 1315 32 (Int32.ofNat (p + 1))).1 1353 (d + 1) = 1 := by
        rw [u_ne (by decide), fr1]
        exact hf
      rw [if_pos trivial, if_pos c, m.2.1.2.1, if_pos i2]
      simp only [n2, fr2]
      rw [if_pos trivial, if_neg (show ¬ (1 : Int32) = 0 by decide), show Int32.ofNat (d + 1) - 1 = Int32.ofNat d by rw [show (1 : Int32) = Int32.ofNat 1 from rfl, oN_sb (by omega)]; rfl]
      exact ⟨_, rfl, m.dp (by omega), (k3.tr (agF.mv (d := 6) (Or.inl rfl)) (Nat.le_refl _)).tr (agF.mv (d := 6) (by omega)) (Nat.le_refl _)⟩
    · rw [if_pos trivial, if_neg c]
      exact ⟨σ1, rfl, k3.1⟩
  · simp only [hf]
    refine ⟨fun c => ?_, fun c => ?_⟩
    · have hl := ch_lt c (by decide)
      have m := k2.mv (q := p + 1) (by omega)
      have fr2 : (uI σ1 1315 32 (Int32.ofNat (p + 1))).1 1353 (d + 1) = 3 := by
        rw [u_ne (by decide), fr1]
        exact hf
      have m2 := m.dp (e := d) (by omega)
      obtain ⟨τ, t1, t2, t3⟩ := f221_e (F := F) (kd := 6) (ar := 0) (ln := 0) (r := r2) m2 hn2 (by rw [u_ne (by decide), u_ne (by decide), k3.2 d (by omega) 1356 (by decide) (by decide)]; exact hr2) (opW_b hr2n (by omega) (by omega))
      rw [if_neg (show ¬ (3 : Int32) = 1 by decide), if_pos c, m.2.1.2.1, if_pos i2]
      simp only [n2, fr2]
      rw [if_neg (show ¬ (3 : Int32) = 1 by decide), if_pos trivial, show Int32.ofNat (d + 1) - 1 = Int32.ofNat d by rw [show (1 : Int32) = Int32.ofNat 1 from rfl, oN_sb (by omega)]; rfl, show f221 F 6 0 0 _ = oV τ from t1, cVo]
      exact ⟨τ, rfl, t2, ((k3.tr (agF.mv (d := 6) (Or.inl rfl)) (Nat.le_refl _)).tr (agF.mv (d := 6) (by omega)) (Nat.le_refl _)).tr t3 (Nat.le_refl _)⟩
    · rw [if_neg (show ¬ (3 : Int32) = 1 by decide), if_neg c]
      exact ⟨σ1, rfl, k3.1⟩
end RBH
