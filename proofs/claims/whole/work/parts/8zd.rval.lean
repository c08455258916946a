/-! THE REFERENCE READS: values begin, values end -/
section RVL
variable {F p d np nst npr nop : Nat} {b : List Int32} {T : Tb} {σ τ υ : St}
theorem f222_d (hb : b.length ≤ 120) (h : mQ b σ p d np nst npr nop T) : (isDig (b.getD p 0) = true → f222 F σ = cI (f223 F σ) fun c36 σ35 => oI c36 σ35) ∧ (¬ isDig (b.getD p 0) = true → f222 F σ = f222_26 F (b.getD p 0) σ) := by
  have hp := h.2.2.2.2.1
  unfold f222
  rw [ltE, h.2.1.1, h.ch hb (by omega), cIo]
  unfold isDig
  by_cases c1 : b.getD p 0 < 48
  · rw [if_pos c1, decide_eq_true c1]
    exact ⟨fun q => (by cases q), fun _ => rfl⟩
  · rw [if_neg c1, decide_eq_false c1]
    by_cases c2 : 57 < b.getD p 0
    · rw [if_pos c2, decide_eq_true c2]
      exact ⟨fun q => (by cases q), fun _ => rfl⟩
    · rw [if_neg c2, decide_eq_false c2]
      exact ⟨fun _ => rfl, fun q => absurd rfl q⟩
theorem f222_26_p (hF : 500 ≤ F) (hb : b.length ≤ 120) (ho : okB b) (h : mQ b σ p d np nst npr nop T) (hq : ¬ b.getD p 0 = 39) (hc : nmE b p = p ∨ ¬ b.getD (nmE b p) 0 = 40 ∨ fnW (nmW b p) = 0) : f222_26 F (b.getD p 0) σ = oI 1 σ := by
  have hp := h.2.2.2.2.1
  have n1 := nmE_ge (b := b) (p := p)
  have n2 := nmE_le hp
  unfold f222_26
  rw [if_neg hq, ltE, h.2.1.1, f163_e hF hb h.1 (by omega), cIo, ltE, h.2.1.1]
  by_cases c1 : nmE b p = p
  · rw [if_pos (by rw [c1])]
  · rw [if_neg (fun g => c1 ((oN_eq (by omega) (by omega)).mp g)), h.ch hb (by omega), cIo]
    by_cases c2 : b.getD (nmE b p) 0 = 40
    · have c3 : fnW (nmW b p) = 0 := by
        rcases hc with q | q | q
        · exact absurd q c1
        · exact absurd c2 q
        · exact q
      unfold fnW nmW at c3
      by_cases k1 : stre b p (nmE b p - p) = lits 50
      · rw [if_pos k1] at c3
        omega
      · rw [if_neg k1] at c3
        by_cases k2 : stre b p (nmE b p - p) = lits 51
        · rw [if_pos k2] at c3
          omega
        · rw [if_neg k2] at c3
          by_cases k3 : stre b p (nmE b p - p) = lits 52
          · rw [if_pos k3] at c3
            omega
          · rw [if_neg k3] at c3
            by_cases k4 : stre b p (nmE b p - p) = lits 53
            · rw [if_pos k4] at c3
              omega
            · rw [if_pos c2]
              simp only [ltE, h.2.1.1]
              rw [f213_e hF hb ho h.1 n1 n2 (by decide) kws.2.2.2.1 kwk.2.2.2.1.symm, cIo, ifb, if_neg (by rw [decide_eq_false k1]; decide), h.2.1.1, f213_e hF hb ho h.1 n1 n2 (by decide) kws.2.2.2.2.1 kwk.2.2.2.2.1.symm, cIo, ifb, if_neg (by rw [decide_eq_false k2]; decide), h.2.1.1, f213_e hF hb ho h.1 n1 n2 (by decide) kws.2.2.2.2.2.1 kwk.2.2.2.2.2.1.symm, cIo, ifb, if_neg (by rw [decide_eq_false k3]; decide), h.2.1.1, f213_e hF hb ho h.1 n1 n2 (by decide) kws.2.2.2.2.2.2 kwk.2.2.2.2.2.2.symm, cIo, ifb, if_neg (by rw [decide_eq_false k4]; decide)]
    · rw [if_neg c2]
theorem f222_26_f {r : Nat} (hF : 500 ≤ F) (hb : b.length ≤ 120) (ho : okB b) (h : mQ b σ p d np nst npr nop T) (hn : nop ≤ 120) (hr : σ.1 1356 d = Int32.ofNat r) (hrn : r < npr) (hq : ¬ b.getD p 0 = 39) (c1 : ¬ nmE b p = p) (c2 : b.getD (nmE b p) 0 = 40) : (fnW (nmW b p) = 1 ∨ fnW (nmW b p) = 2 → (¬ b.getD (nmE b p + 1) 0 = 41 → ∃ τ, f222_26 F (b.getD p 0) σ = oI 8 τ ∧ agR0 σ τ) ∧ (b.getD (nmE b p + 1) 0 = 41 → ∃ τ, f222_26 F (b.getD p 0) σ = oI 7 τ ∧ mQ b τ (nmE b p + 2) d np nst npr (nop + 1) (adO T nop (r, 1 + fnW (nmW b p), 0, 0)) ∧ agF 6 σ τ)) ∧ (fnW (nmW b p) = 3 → (¬ d < 4 → f222_26 F (b.getD p 0) σ = oI 8 σ) ∧ (d < 4 → ∃ τ, f222_26 F (b.getD p 0) σ = oI 1 τ ∧ mQ b τ (nmE b p + 1) (d + 1) np nst npr nop T ∧ agF (d + 1) σ τ ∧ τ.1 1353 (d + 1) = 2 ∧ τ.1 1356 (d + 1) = Int32.ofNat r ∧ τ.1 1357 (d + 1) = 0 ∧ τ.1 1358 (d + 1) = 0)) ∧ (fnW (nmW b p) = 7 → (¬ d < 4 → f222_26 F (b.getD p 0) σ = oI 8 σ) ∧ (d < 4 → ∃ τ, f222_26 F (b.getD p 0) σ = oI 6 τ ∧ mQ b τ (nmE b p + 1) (d + 1) np nst npr nop T ∧ agF (d + 1) σ τ ∧ τ.1 1353 (d + 1) = 3 ∧ τ.1 1356 (d + 1) = Int32.ofNat r ∧ τ.1 1357 (d + 1) = 0 ∧ τ.1 1358 (d + 1) = 0)) := by
  have hp := h.2.2.2.2.1
  have hd := h.2.2.2.2.2.1
  have n1 := nmE_ge (b := b) (p := p)
  have n2 := nmE_le hp
  have hl := ch_lt c2 (by decide)
  have i2 : inB (Int32.ofNat d) 6 := oN_rg (by omega) (by decide)
  have nn2 := oN_n (show d < 2147483648 by omega)
  have e1 := f213_e (F := F) hF hb ho h.1 n1 n2 (by decide) kws.2.2.2.1 kwk.2.2.2.1.symm
  have e2 := f213_e (F := F) hF hb ho h.1 n1 n2 (by decide) kws.2.2.2.2.1 kwk.2.2.2.2.1.symm
  have e3 := f213_e (F := F) hF hb ho h.1 n1 n2 (by decide) kws.2.2.2.2.2.1 kwk.2.2.2.2.2.1.symm
  have e4 := f213_e (F := F) hF hb ho h.1 n1 n2 (by decide) kws.2.2.2.2.2.2 kwk.2.2.2.2.2.2.symm
  -- position and last
  have pl : ∀ (y3 : Int32) (kd : Nat), (if y3 = 0 then (3 : Int32) else 2) = Int32.ofNat kd → (kd = 2 ∨ kd = 3) → (¬ b.getD (nmE b p + 1) 0 = 41 → ∃ τ, f222_98 F (Int32.ofNat (nmE b p)) y3 σ = oI 8 τ ∧ agR0 σ τ) ∧ (b.getD (nmE b p + 1) 0 = 41 → ∃ τ, f222_98 F (Int32.ofNat (nmE b p)) y3 σ = oI 7 τ ∧ mQ b τ (nmE b p + 2) d np nst npr (nop + 1) (adO T nop (r, kd, 0, 0)) ∧ agF 6 σ τ) := by
    intro y3 kd hy hk
    have b2 : bufM (uI σ 1315 32 (Int32.ofNat (nmE b p + 2))) b := bufM_at h.1
    have body : f222_98 F (Int32.ofNat (nmE b p)) y3 σ = f222_115 F (Int32.ofNat (nmE b p)) (Int32.ofNat kd) (uI σ 1315 32 (Int32.ofNat (nmE b p + 2))) := by
      unfold f222_98
      rw [oN_p2, ltE, ← hy]
      split <;> rfl
    rw [body]
    unfold f222_115
    rw [oN_p1]
    constructor
    · intro c
      obtain ⟨τ, t1, t2⟩ := f221_b (F := F) (σ := uI σ 1315 32 (Int32.ofNat (nmE b p + 2))) (nop := nop) (d := d) (x := Int32.ofNat kd) (y := 0) (z := 0) (by rw [u_at, if_neg (by decide)]; exact h.2.1.2.2.2.2.2) (by rw [u_at, if_neg (by decide)]; exact h.2.1.2.1) hn hd
      have b3 : bufM τ b := b2.fr (t2.2.2 1 (by omega)) (t2.2.1 1316 (by decide) (by omega))
      rw [t1, cVo, f152_e b3 hb (by omega), cIo, if_neg c]
      exact ⟨τ, rfl, (agF.mv (d := 0) (Or.inl rfl)).1.tr t2⟩
    · intro c
      have hl2 := ch_lt c (by decide)
      obtain ⟨τ, t1, t2, t3⟩ := f221_e (F := F) (kd := kd) (ar := 0) (ln := 0) (h.mv (q := nmE b p + 2) (by omega)) hn (by rw [u_ne (by decide)]; exact hr) ⟨hrn, by show kd ≤ 12; omega, fun _ => by show (0 : Nat) < 1000000; omega, fun _ => by show 0 + 0 ≤ b.length; omega, fun q => by
        have q : kd = 4 ∨ kd = 5 := q
        omega⟩
      rw [show f221 F (Int32.ofNat kd) 0 0 _ = oV τ from t1, cVo, t2.ch hb (by omega), cIo, if_pos c]
      exact ⟨τ, rfl, t2, (agF.mv (d := 6) (Or.inl rfl)).tr t3 (Nat.le_refl _)⟩
  -- count and not
  have cn : ∀ (y4 : Int32) (k : Nat), (if y4 = 0 then (3 : Int32) else 2) = Int32.ofNat k → (¬ d < 4 → f222_174 F (Int32.ofNat (nmE b p)) y4 σ = oI 8 σ) ∧ (d < 4 → ∃ τ, f222_174 F (Int32.ofNat (nmE b p)) y4 σ = oI (if y4 = 0 then 6 else 1) τ ∧ mQ b τ (nmE b p + 1) (d + 1) np nst npr nop T ∧ agF (d + 1) σ τ ∧ τ.1 1353 (d + 1) = Int32.ofNat k ∧ τ.1 1356 (d + 1) = Int32.ofNat r ∧ τ.1 1357 (d + 1) = 0 ∧ τ.1 1358 (d + 1) = 0) := by
    intro y4 k hy
    unfold f222_174
    rw [ltE, h.2.1.2.1]
    constructor
    · intro c
      rw [if_pos (show Int32.ofNat d = 4 by rw [show d = 4 by omega]; rfl)]
    · intro c
      have m := h.mv (q := nmE b p + 1) (by omega)
      obtain ⟨τ, t1, t2, t3, t4⟩ := f218_e (F := F) (k := k) (r := r) m c
      rw [if_neg (show ¬ Int32.ofNat d = 4 from fun g => by have := (oN_eq (q := 4) (by omega) (by decide)).mp g; omega), oN_p1, ltE]
      refine ⟨τ, ?_, t2, (agF.mv (d := d + 1) (Or.inl rfl)).tr t3 (Nat.le_refl _), t4⟩
      have mr : (uI σ 1315 32 (Int32.ofNat (nmE b p + 1))).1 1356 d = Int32.ofNat r := by
        rw [u_ne (by decide)]
        exact hr
      by_cases c0 : y4 = 0
      · rw [if_pos c0] at hy
        rw [if_pos c0, if_pos c0]
        unfold f222_203
        rw [ltE, m.2.1.2.1, if_pos i2, nn2, ltE, mr, hy, t1, cVo, if_pos c0]
      · rw [if_neg c0] at hy
        rw [if_neg c0, if_neg c0]
        unfold f222_203
        rw [ltE, m.2.1.2.1, if_pos i2, nn2, ltE, mr, hy, t1, cVo, if_neg c0]
  have head : f222_26 F (b.getD p 0) σ = (if stre b p (nmE b p - p) = lits 50 then f222_98 F (Int32.ofNat (nmE b p)) 1 σ else if stre b p (nmE b p - p) = lits 51 then f222_98 F (Int32.ofNat (nmE b p)) 0 σ else if stre b p (nmE b p - p) = lits 52 then f222_174 F (Int32.ofNat (nmE b p)) 1 σ else if stre b p (nmE b p - p) = lits 53 then f222_174 F (Int32.ofNat (nmE b p)) 0 σ else oI 1 σ) := by
    unfold f222_26
    rw [if_neg hq, ltE, h.2.1.1, f163_e hF hb h.1 (by omega), cIo, ltE, h.2.1.1, if_neg (fun g => c1 ((oN_eq (by omega) (by omega)).mp g)), h.ch hb (by omega), cIo, if_pos c2, ltE, h.2.1.1, e1, cIo]
    by_cases k1 : stre b p (nmE b p - p) = lits 50
    · rw [if_pos k1, decide_eq_true k1, if_neg (show ¬ b2i true = 0 by decide)]
      rfl
    · rw [if_neg k1, decide_eq_false k1, if_pos b2i_f, ltE, h.2.1.1, e2, cIo]
      by_cases k2 : stre b p (nmE b p - p) = lits 51
      · rw [if_pos k2, decide_eq_true k2, if_neg (show ¬ b2i true = 0 by decide)]
        rfl
      · rw [if_neg k2, decide_eq_false k2, if_pos b2i_f, ltE, h.2.1.1, e3, cIo]
        by_cases k3 : stre b p (nmE b p - p) = lits 52
        · rw [if_pos k3, decide_eq_true k3, if_neg (show ¬ b2i true = 0 by decide)]
          rfl
        · rw [if_neg k3, decide_eq_false k3, if_pos b2i_f, ltE, h.2.1.1, e4, cIo]
          by_cases k4 : stre b p (nmE b p - p) = lits 53
          · rw [if_pos k4, decide_eq_true k4, if_neg (show ¬ b2i true = 0 by decide)]
            rfl
          · rw [if_neg k4, decide_eq_false k4, if_pos b2i_f]
  rw [head]
  unfold fnW nmW
  by_cases k1 : stre b p (nmE b p - p) = lits 50
  · simp only [if_pos k1]
    exact ⟨fun _ => pl 1 2 rfl (Or.inl rfl), fun q => by omega, fun q => by omega⟩
  · simp only [if_neg k1]
    by_cases k2 : stre b p (nmE b p - p) = lits 51
    · simp only [if_pos k2]
      exact ⟨fun _ => pl 0 3 rfl (Or.inr rfl), fun q => by omega, fun q => by omega⟩
    · simp only [if_neg k2]
      by_cases k3 : stre b p (nmE b p - p) = lits 52
      · simp only [if_pos k3]
        exact ⟨fun q => by omega, fun _ => cn 1 2 rfl, fun q => by omega⟩
      · simp only [if_neg k3]
        by_cases k4 : stre b p (nmE b p - p) = lits 53
        · simp only [if_pos k4]
          exact ⟨fun q => by omega, fun q => by omega, fun _ => cn 0 3 rfl⟩
        · simp only [if_neg k4]
          exact ⟨fun q => by omega, fun q => by omega, fun q => by omega⟩
end RVL
