/-! THE REFERENCE READS: moves about paths, predicates, operands -/
section RMV
variable {F p d np nst npr nop : Nat} {b : List Int32} {T : Tb} {σ τ υ : St}
theorem f208_e (hb : b.length ≤ 120) (h : mQ b σ p d np nst npr nop T) (hn : np ≤ 120) (hs : nst ≤ 120) : (¬ b.getD p 0 = 47 → ∃ τ, f208 F σ = oI 2 τ ∧ mQ b τ p d (np + 1) nst npr nop (adF T np false) ∧ agK d σ τ ∧ τ.1 1354 d = Int32.ofNat np) ∧ (b.getD p 0 = 47 → b.getD (p + 1) 0 = 47 → ∃ τ, f208 F σ = oI 2 τ ∧ mQ b τ (p + 2) d (np + 1) (nst + 1) npr nop (adS (adF T np true) nst (np, 10, 4, 0, 0)) ∧ agK d σ τ ∧ τ.1 1354 d = Int32.ofNat np) ∧ (b.getD p 0 = 47 → ¬ b.getD (p + 1) 0 = 47 → ∃ τ, f208 F σ = oI (if bgS (b.getD (p + 1) 0) = true then 2 else 5) τ ∧ mQ b τ (p + 1) d (np + 1) nst npr nop (adF T np true) ∧ agK d σ τ ∧ τ.1 1354 d = Int32.ofNat np) := by
  have hp := h.2.2.2.2.1
  have hd := h.2.2.2.2.2.1
  have i1 : inB (Int32.ofNat np) 130 := oN_rg (by omega) (by decide)
  have i2 : inB (Int32.ofNat d) 6 := oN_rg (by omega) (by decide)
  have n1 := oN_n (show np < 2147483648 by omega)
  have n2 := oN_n (show d < 2147483648 by omega)
  have hfr := h.fr (A := 1354) (i := d) (x := Int32.ofNat np) (by decide) (by decide)
  have key : ∀ r : Bool, f208_39 F (Int32.ofNat np) (b2i r) (uI σ 1354 d (Int32.ofNat np)) = (if b.getD p 0 = 47 then cI (f152 F (Int32.ofNat (p + 1)) (uI (uI (uI σ 1354 d (Int32.ofNat np)) 1341 np (b2i r)) 1315 36 (Int32.ofNat (np + 1)))) fun c16 σ15 => if c16 = 47 then lt (σ15.1 1315 32) fun c17 => lt (uI σ15 1315 32 (c17 + 2)) fun σ18 => cV (f209 F 10 4 0 0 σ18) fun σ19 => oI 2 σ19 else lt (σ15.1 1315 32) fun c21 => lt (uI σ15 1315 32 (c21 + 1)) fun σ22 => lt (σ22.1 1315 32) fun c23 => cI (f152 F c23 σ22) fun c25 σ24 => cI (f210 F c25 σ24) fun c27 σ26 => if c27 = 0 then oI 5 σ26 else oI 2 σ26 else oI 2 (uI (uI (uI σ 1354 d (Int32.ofNat np)) 1341 np (b2i r)) 1315 36 (Int32.ofNat (np + 1)))) := by
    intro r
    have nb : vp_nar .boolean (b2i r) = b2i r := by
      cases r
      · exact nar_b.1
      · exact nar_b.2
    have w := (nwF (r := r) h hn).1
    have c9 : (uI (uI σ 1354 d (Int32.ofNat np)) 1341 np (b2i r)).1 1315 36 = Int32.ofNat np := by
      rw [u_ne (by decide), u_ne (by decide)]
      exact h.2.1.2.2.1
    unfold f208_39
    rw [if_pos i1, n1, nb, ltE, ltE, c9, oN_p1, ltE, ltE, w.2.1.1, w.ch hb (by omega), cIo]
    by_cases c : b.getD p 0 = 47
    · rw [if_pos c, if_pos c, ltE, w.2.1.1, oN_p1]
    · rw [if_neg c, if_neg c]
  have head : f208 F σ = f208_39 F (Int32.ofNat np) (b2i (decide (b.getD p 0 = 47))) (uI σ 1354 d (Int32.ofNat np)) := by
    unfold f208
    rw [ltE, h.2.1.2.1, ltE, h.2.1.2.2.1, if_pos i2, n2, ltE, ltE, hfr.2.1.2.2.1, ltE, hfr.2.1.1, hfr.ch hb (by omega), cIo]
    by_cases c : b.getD p 0 = 47
    · rw [if_pos c, decide_eq_true c]
      rfl
    · rw [if_neg c, decide_eq_false c]
      rfl
  rw [head, key]
  refine ⟨fun c => ?_, fun c c2 => ?_, fun c c2 => ?_⟩
  · have w := nwF (r := false) h hn
    rw [if_neg c, decide_eq_false c]
    exact ⟨_, rfl, w.1, w.2.1, w.2.2⟩
  · have hl := ch_lt c (by decide)
    have hl2 := ch_lt c2 (by decide)
    have w := nwF (r := true) h hn
    rw [if_pos c, decide_eq_true c, w.1.ch hb (by omega), cIo, if_pos c2, ltE, w.1.2.1.1, oN_p2, ltE]
    obtain ⟨τ, t1, t2, t3, t4, t5⟩ := f209_e (F := F) (a := 10) (t := 4) (f := 0) (n := 0) (k := np) (w.1.mv (q := p + 2) (by omega)) hs (by rw [u_ne (by decide)]; exact w.2.2) (by omega) ⟨by decide, by decide, Nat.zero_le _⟩
    refine ⟨τ, ?_, t2, (w.2.1.tr (agF.mv (d := d + 1) (Or.inl rfl)).c).tr t3, t4⟩
    rw [show f209 F 10 4 0 0 _ = oV τ from t1, cVo]
  · have hl := ch_lt c (by decide)
    have w := nwF (r := true) h hn
    rw [if_pos c, decide_eq_true c, w.1.ch hb (by omega), cIo, if_neg c2, ltE, w.1.2.1.1, oN_p1, ltE]
    have m := w.1.mv (q := p + 1) (by omega)
    rw [ltE, m.2.1.1, m.ch hb (by omega), cIo, f210_e, cIo, ifb]
    refine ⟨_, ?_, m, w.2.1.tr (agF.mv (d := d + 1) (Or.inl rfl)).c, by rw [u_ne (by decide)]; exact w.2.2⟩
    split <;> rfl
theorem f217_e (hb : b.length ≤ 120) (h : mQ b σ p d np nst npr nop T) (hn : npr ≤ 120) {s : Nat} (hst : σ.1 1355 d = Int32.ofNat s) (hs : s < nst) : (¬ b.getD p 0 = 91 → f217 F σ = oI 4 σ) ∧ (b.getD p 0 = 91 → ¬ d < 4 → f217 F σ = oI 8 σ) ∧ (b.getD p 0 = 91 → d < 4 → ∃ τ, f217 F σ = oI 6 τ ∧ mQ b τ (p + 1) (d + 1) np nst (npr + 1) nop (adR T npr s) ∧ agF (d + 1) σ τ ∧ τ.1 1353 (d + 1) = 1 ∧ τ.1 1356 (d + 1) = Int32.ofNat npr ∧ τ.1 1357 (d + 1) = 0 ∧ τ.1 1358 (d + 1) = 0) := by
  have hp := h.2.2.2.2.1
  have hd := h.2.2.2.2.2.1
  unfold f217
  rw [ltE, h.2.1.1, h.ch hb (by omega), cIo]
  refine ⟨fun c => by rw [if_neg c], fun c c2 => ?_, fun c c2 => ?_⟩
  · rw [if_pos c, ltE, h.2.1.2.1, if_pos (show Int32.ofNat d = 4 by rw [show d = 4 by omega]; rfl)]
  · have hl := ch_lt c (by decide)
    have i1 : inB (Int32.ofNat npr) 130 := oN_rg (by omega) (by decide)
    have i2 : inB (Int32.ofNat d) 6 := oN_rg (by omega) (by decide)
    have n1 := oN_n (show npr < 2147483648 by omega)
    have n2 := oN_n (show d < 2147483648 by omega)
    have m := h.mv (q := p + 1) (by omega)
    have ms : (uI σ 1315 32 (Int32.ofNat (p + 1))).1 1355 d = Int32.ofNat s := by
      rw [u_ne (by decide)]
      exact hst
    have w := nwR m hn hs
    have c11 : (uI (uI σ 1315 32 (Int32.ofNat (p + 1))) 1347 npr (Int32.ofNat s)).1 1315 44 = Int32.ofNat npr := by
      rw [u_ne (by decide)]
      exact m.2.1.2.2.2.2.1
    obtain ⟨τ, t1, t2, t3, t4⟩ := f218_e (F := F) (k := 1) (r := npr) w.1 c2
    refine ⟨τ, ?_, t2, ((agF.mv (d := d + 1) (Or.inl rfl)).tr w.2 (by omega)).tr t3 (Nat.le_refl _), t4⟩
    rw [if_pos c, ltE, h.2.1.2.1, if_neg (show ¬ Int32.ofNat d = 4 from fun g => by have := (oN_eq (q := 4) (by omega) (by decide)).mp g; omega), ltE, h.2.1.1, oN_p1, ltE, ltE, m.2.1.2.2.2.2.1, ltE, m.2.1.2.1, if_pos i2, n2, ltE, ms, if_pos i1, n1, ltE, ltE, c11, oN_p1, ltE, ltE, w.1.2.1.2.2.2.2.1, show Int32.ofNat (npr + 1) - 1 = Int32.ofNat npr by rw [show (1 : Int32) = Int32.ofNat 1 from rfl, oN_sb (by omega)]; rfl, show f218 F 1 (Int32.ofNat npr) _ = oV τ from t1, cVo]
theorem f219_e (hb : b.length ≤ 120) (h : mQ b σ p d np nst npr nop T) (hn : nst ≤ 120) {k : Nat} (hk : σ.1 1354 d = Int32.ofNat k) (hkn : k < np) : (¬ b.getD p 0 = 47 → f219 F σ = oI 5 σ) ∧ (b.getD p 0 = 47 → ¬ b.getD (p + 1) 0 = 47 → f219 F σ = oI 2 (uI σ 1315 32 (Int32.ofNat (p + 1)))) ∧ (b.getD p 0 = 47 → b.getD (p + 1) 0 = 47 → ∃ τ, f219 F σ = oI 2 τ ∧ mQ b τ (p + 2) d np (nst + 1) npr nop (adS T nst (k, 10, 4, 0, 0)) ∧ agK d σ τ ∧ τ.1 1354 d = Int32.ofNat k) := by
  have hp := h.2.2.2.2.1
  unfold f219
  rw [ltE, h.2.1.1, h.ch hb (by omega), cIo]
  refine ⟨fun c => by rw [if_neg c], fun c c2 => ?_, fun c c2 => ?_⟩
  · have hl := ch_lt c (by decide)
    have m := h.mv (q := p + 1) (by omega)
    rw [if_pos c, ltE, h.2.1.1, oN_p1, ltE, ltE, m.2.1.1, m.ch hb (by omega), cIo, if_neg c2]
  · have hl := ch_lt c (by decide)
    have hl2 := ch_lt c2 (by decide)
    have m := h.mv (q := p + 1) (by omega)
    obtain ⟨τ, t1, t2, t3, t4, t5⟩ := f209_e (F := F) (a := 10) (t := 4) (f := 0) (n := 0) (k := k) (h.mv (q := p + 2) (by omega)) hn (by rw [u_ne (by decide)]; exact hk) hkn ⟨by decide, by decide, Nat.zero_le _⟩
    refine ⟨τ, ?_, t2, (agF.mv (d := d + 1) (Or.inl rfl)).c.tr t3, t4⟩
    rw [if_pos c, ltE, h.2.1.1, oN_p1, ltE, ltE, m.2.1.1, m.ch hb (by omega), cIo, if_pos c2, ltE, m.2.1.1, oN_p1, ltE, uI_uI, show f209 F 10 4 0 0 _ = oV τ from t1, cVo]
theorem f220_t (h : mQ b σ p d np nst npr nop T) (hb : b.length ≤ 120) (hf : σ.1 1353 d = 0) : f220 F σ = oI (if p = b.length then 0 else 8) σ := by
  have hp := h.2.2.2.2.1
  have hd := h.2.2.2.2.2.1
  have i2 : inB (Int32.ofNat d) 6 := oN_rg (by omega) (by decide)
  have n2 := oN_n (show d < 2147483648 by omega)
  unfold f220
  simp only [ltE, h.2.1.2.1, if_pos i2, n2, hf, h.2.1.1, h.1.1]
  rw [if_pos trivial]
  by_cases c : p = b.length
  · rw [if_pos (by rw [c]), if_pos c]
  · rw [if_neg (fun g => c ((oN_eq (by omega) (by omega)).mp g)), if_neg c]
theorem f220_p {k r : Nat} (h : mQ b σ p d np nst npr nop T) (hn : nop ≤ 120) (hf : σ.1 1353 d = 1 ∨ σ.1 1353 d = 3) (hk : σ.1 1354 d = Int32.ofNat k) (hr : σ.1 1356 d = Int32.ofNat r) (hw : opW b T np npr (r, 5, k, 0)) : ∃ τ, f220 F σ = oI 7 τ ∧ mQ b τ p d np nst npr (nop + 1) (adO T nop (r, 5, k, 0)) ∧ agF 6 σ τ := by
  have hd := h.2.2.2.2.2.1
  have i2 : inB (Int32.ofNat d) 6 := oN_rg (by omega) (by decide)
  have n2 := oN_n (show d < 2147483648 by omega)
  obtain ⟨τ, t1, t2, t3⟩ := f221_e (F := F) h hn hr hw
  refine ⟨τ, ?_, t2, t3⟩
  unfold f220
  simp only [ltE, h.2.1.2.1, if_pos i2, n2, hk]
  rw [if_neg (show ¬ σ.1 1353 d = 0 from fun g => by rcases hf with q | q <;> rw [q] at g <;> exact absurd g (by decide)), if_neg (show ¬ σ.1 1353 d = 2 from fun g => by rcases hf with q | q <;> rw [q] at g <;> exact absurd g (by decide)), show f221 F 5 (Int32.ofNat k) 0 σ = oV τ from t1, cVo]
theorem f220_c {k r : Nat} (hb : b.length ≤ 120) (h : mQ b σ p (d + 1) np nst npr nop T) (hn : nop ≤ 120) (hf : σ.1 1353 (d + 1) = 2) (hk : σ.1 1354 (d + 1) = Int32.ofNat k) (hr : σ.1 1356 d = Int32.ofNat r) (hw : opW b T np npr (r, 4, k, 0)) : (¬ b.getD p 0 = 41 → f220 F σ = oI 8 σ) ∧ (b.getD p 0 = 41 → ∃ τ, f220 F σ = oI 7 τ ∧ mQ b τ (p + 1) d np nst npr (nop + 1) (adO T nop (r, 4, k, 0)) ∧ agF 6 σ τ) := by
  have hp := h.2.2.2.2.1
  have hd := h.2.2.2.2.2.1
  have i2 : inB (Int32.ofNat (d + 1)) 6 := oN_rg (by omega) (by decide)
  have n2 := oN_n (show d + 1 < 2147483648 by omega)
  unfold f220
  simp only [ltE, h.2.1.2.1, if_pos i2, n2, hk, hf, h.2.1.1]
  rw [if_neg (show ¬ (2 : Int32) = 0 by decide), if_pos trivial, h.ch hb (by omega), cIo]
  refine ⟨fun c => by rw [if_neg c], fun c => ?_⟩
  have hl := ch_lt c (by decide)
  have m := (h.mv (q := p + 1) (by omega)).dp (e := d) (by omega)
  obtain ⟨τ, t1, t2, t3⟩ := f221_e (F := F) m hn (by rw [u_ne (by decide), u_ne (by decide)]; exact hr) hw
  refine ⟨τ, ?_, t2, ((agF.mv (d := 6) (Or.inl rfl)).tr (agF.mv (d := 6) (by omega)) (Nat.le_refl _)).tr t3 (Nat.le_refl _)⟩
  rw [if_pos c, h.2.1.1, oN_p1, (h.mv (q := p + 1) (by omega)).2.1.2.1, show Int32.ofNat (d + 1) - 1 = Int32.ofNat d by rw [show (1 : Int32) = Int32.ofNat 1 from rfl, oN_sb (by omega)]; rfl, show f221 F 4 (Int32.ofNat k) 0 _ = oV τ from t1, cVo]
/-- emit, where it does not matter what -/
theorem f221_b {x y z : Int32} (h46 : σ.1 1315 46 = Int32.ofNat nop) (h52 : σ.1 1315 52 = Int32.ofNat d) (hn : nop ≤ 120) (hd : d ≤ 4) : ∃ τ, f221 F x y z σ = oV τ ∧ agR0 σ τ := by
  have i1 : inB (Int32.ofNat nop) 130 := oN_rg (by omega) (by decide)
  have i2 : inB (Int32.ofNat d) 6 := oN_rg (by omega) (by decide)
  have n1 := oN_n (show nop < 2147483648 by omega)
  have n2 := oN_n (show d < 2147483648 by omega)
  refine ⟨uI (uI (uI (uI (uI σ 1348 nop (σ.1 1356 d)) 1349 nop x) 1350 nop y) 1351 nop z) 1315 46 (Int32.ofNat (nop + 1)), ?_, rfl, fun A h1 h2 => ?_, fun j hj => ?_⟩
  · unfold f221
    simp only [ltE, xI1, h46, h52, if_pos i1, if_pos i2, n1, n2]
    simp only [reduceCtorEq, Nat.reduceEqDiff, false_and, if_false, if_pos i1, if_pos i2, n1, n2, h46, h52, oN_p1]
  · rw [u_ne (by omega), u_ne (by omega), u_ne (by omega), u_ne (by omega), u_ne (by omega)]
  · simp only [xI1]
    repeat rw [if_neg (by omega)]
theorem dg_32 {i n : Nat} (h : isDig (b.getD (i + n) 0) = true) (hv : dgN b i n < 100000000) : (10 * Int32.ofNat (dgN b i n) + b.getD (i + n) 0) - 48 = Int32.ofNat (dgN b i (n + 1)) := by
  obtain ⟨c, h1, h2, h3⟩ := dig_c h
  have e : dgN b i (n + 1) = dgN b i n * 10 + ((b.getD (i + n) 0).toNatClampNeg - 48) := rfl
  rw [e, h3, h2, show (10 : Int32) = Int32.ofNat 10 from rfl, show (48 : Int32) = Int32.ofNat 48 from rfl, ← Int32.ofNat_mul, oN_ad, oN_sb (by omega), show 10 * dgN b i n + (48 + c) - 48 = dgN b i n * 10 + c by omega]
theorem dgC_76 : (dgC b p 7 ≤ 6 → dgC b p 6 = dgC b p 7) ∧ (dgC b p 7 = 7 → dgC b p 6 = 6 ∧ isDig (b.getD (p + 6) 0) = true) := by
  obtain ⟨a1, a2, a3⟩ := dgC_ok (b := b) 7 p
  obtain ⟨c1, c2, c3⟩ := dgC_ok (b := b) 6 p
  constructor
  · intro h
    by_cases g : dgC b p 6 < dgC b p 7
    · have h1 := c3 (by omega)
      have h2 := a2 (dgC b p 6) g
      rw [h1] at h2
      cases h2
    · by_cases g2 : dgC b p 7 < dgC b p 6
      · have h1 := a3 (by omega)
        have h2 := c2 (dgC b p 7) g2
        rw [h1] at h2
        cases h2
      · omega
  · intro h
    refine ⟨?_, a2 6 (by omega)⟩
    by_cases g : dgC b p 6 < 6
    · have h1 := c3 g
      have h2 := a2 (dgC b p 6) (by omega)
      rw [h1] at h2
      cases h2
    · omega
theorem f223_e {r : Nat} (hF : 500 ≤ F) (hb : b.length ≤ 120) (h : mQ b σ p d np nst npr nop T) (hn : nop ≤ 120) (hd : isDig (b.getD p 0) = true) (hr : σ.1 1356 d = Int32.ofNat r) (hrn : r < npr) : (dgC b p 7 = 7 → ∃ τ, f223 F σ = oI 8 τ ∧ agR0 σ τ) ∧ (dgC b p 7 ≤ 6 → ∃ τ, f223 F σ = oI 7 τ ∧ mQ b τ (p + dgC b p 6) d np nst npr (nop + 1) (adO T nop (r, 0, dgN b p (dgC b p 6), 0)) ∧ agF 6 σ τ) := by
  have hp := h.2.2.2.2.1
  have hdd := h.2.2.2.2.2.1
  obtain ⟨a1, a2, a3⟩ := dgC_ok (b := b) 7 p
  have hle := dgC_le (m := 7) hp
  have key : ∀ (m kk n : Nat), n + m = dgC b p 7 → f223_4 F (kk + m + 1) (Int32.ofNat (dgN b p n)) (Int32.ofNat n) (uI σ 1315 32 (Int32.ofNat (p + n))) = f223_69 F (Int32.ofNat (dgN b p (dgC b p 7))) (Int32.ofNat (dgC b p 7)) (uI σ 1315 32 (Int32.ofNat (p + dgC b p 7))) := by
    intro m
    induction m with
    | zero =>
      intro kk n hm
      have e : n = dgC b p 7 := by omega
      have mm := h.mv (q := p + n) (by omega)
      rw [f223_4.eq_2, ltE, mm.2.1.1, mm.ch hb (by omega), cIo]
      by_cases c1 : b.getD (p + n) 0 < 48
      · rw [if_pos c1, e]
      · rw [if_neg c1, ltE, mm.2.1.1, mm.ch hb (by omega), cIo]
        by_cases c2 : 57 < b.getD (p + n) 0
        · rw [if_pos c2, e]
        · rw [if_neg c2]
          by_cases c3 : n < 7
          · have h1 := a3 (by omega)
            rw [← e] at h1
            unfold isDig at h1
            rw [decide_eq_false c1, decide_eq_false c2] at h1
            cases h1
          · rw [if_neg (show ¬ Int32.ofNat n < 7 from fun g => c3 ((oN_lt (q := 7) (by omega) (by decide)).mp g)), e]
    | succ m ih =>
      intro kk n hm
      have mm := h.mv (q := p + n) (by omega)
      have dg := a2 n (by omega)
      have hl := dig_lt dg
      have d2 := dgN_lt (s := b) (i := p) n (fun j hj => a2 j (by omega))
      have d3 : 10 ^ n ≤ 10 ^ 7 := Nat.pow_le_pow_right (by decide) (by omega)
      have d4 : (10 : Nat) ^ 7 = 10000000 := by decide
      have h5 := dg
      unfold isDig at h5
      rw [Bool.and_eq_true, Bool.not_eq_true', Bool.not_eq_true', decide_eq_false_iff_not, decide_eq_false_iff_not] at h5
      rw [show kk + (m + 1) + 1 = (kk + m + 1) + 1 by omega, f223_4.eq_2, ltE, mm.2.1.1, mm.ch hb (by omega), cIo, if_neg h5.1, ltE, mm.2.1.1, mm.ch hb (by omega), cIo, if_neg h5.2, if_pos (show Int32.ofNat n < 7 from (oN_lt (q := 7) (by omega) (by decide)).mpr (by omega)), ltE, mm.2.1.1, mm.ch hb (by omega), cIo, ltE, ltE, mm.2.1.1, oN_p1, ltE, dg_32 dg (by omega), oN_p1, uI_uI]
      exact ih kk (n + 1) (by omega)
  have k0 := key (dgC b p 7) (F - dgC b p 7 - 1) 0 (by omega)
  rw [show F - dgC b p 7 - 1 + dgC b p 7 + 1 = F by omega, Nat.add_zero, uI_same h.2.1.1] at k0
  have k1 : f223 F σ = f223_69 F (Int32.ofNat (dgN b p (dgC b p 7))) (Int32.ofNat (dgC b p 7)) (uI σ 1315 32 (Int32.ofNat (p + dgC b p 7))) := k0
  have mm := h.mv (q := p + dgC b p 7) hle
  rw [k1]
  unfold f223_69
  constructor
  · intro e
    obtain ⟨τ, t1, t2⟩ := f221_b (F := F) (x := 0) (y := Int32.ofNat (dgN b p (dgC b p 7))) (z := 0) mm.2.1.2.2.2.2.2 mm.2.1.2.1 hn hdd
    rw [t1, cVo, if_pos (show 6 < Int32.ofNat (dgC b p 7) by rw [e]; decide)]
    exact ⟨τ, rfl, (agF.mv (d := 0) (Or.inl rfl)).1.tr t2⟩
  · intro e
    have e6 := dgC_76.1 e
    have d2 := dgN_lt (s := b) (i := p) (dgC b p 7) a2
    have d3 : 10 ^ dgC b p 7 ≤ 10 ^ 6 := Nat.pow_le_pow_right (by decide) e
    have d4 : (10 : Nat) ^ 6 = 1000000 := by decide
    rw [e6]
    obtain ⟨τ, t1, t2, t3⟩ := f221_e (F := F) (kd := 0) (ar := dgN b p (dgC b p 7)) (ln := 0) mm hn (by rw [u_ne (by decide)]; exact hr) ⟨hrn, by show (0 : Nat) ≤ 12; omega, fun _ => by show dgN b p (dgC b p 7) < 1000000; omega, fun q => (by cases q), fun q => (by rcases q with q | q <;> cases q)⟩
    rw [show f221 F 0 (Int32.ofNat (dgN b p (dgC b p 7))) 0 _ = oV τ from t1, cVo, if_neg (show ¬ 6 < Int32.ofNat (dgC b p 7) from fun g => by have := (oN_lt (p := 6) (by decide) (by omega)).mp g; omega)]
    exact ⟨τ, rfl, t2, (agF.mv (d := 6) (Or.inl rfl)).tr t3 (Nat.le_refl _)⟩
theorem f224_e {r : Nat} (hF : 500 ≤ F) (hb : b.length ≤ 120) (ho : okB b) (h : mQ b σ p d np nst npr nop T) (hn : nop ≤ 120) (hd : b.getD p 0 = 39) (hr : σ.1 1356 d = Int32.ofNat r) (hrn : r < npr) : (¬ skp isNq b (p + 1) < b.length → ∃ τ, f224 F σ = oI 8 τ ∧ agR0 σ τ) ∧ (skp isNq b (p + 1) < b.length → ∃ τ, f224 F σ = oI 7 τ ∧ mQ b τ (skp isNq b (p + 1) + 1) d np nst npr (nop + 1) (adO T nop (r, 1, p + 1, skp isNq b (p + 1) - (p + 1))) ∧ agF 6 σ τ) := by
  have hp := h.2.2.2.2.1
  have hdd := h.2.2.2.2.2.1
  have hl := ch_lt hd (by decide)
  have s1 := skp_ge (f := isNq) (b := b) (p := p + 1)
  have s2 := skp_le (f := isNq) (b := b) (p := p + 1) (by omega)
  have isn : ∀ q, isNq (b.getD q 0) = false → b.getD q 0 = 39 ∨ b.getD q 0 = 0 := by
    intro q hq
    unfold isNq at hq
    rw [Bool.and_eq_false_iff, Bool.not_eq_false', Bool.not_eq_false', decide_eq_true_eq, decide_eq_true_eq] at hq
    exact hq
  have key : ∀ (m kk q : Nat), skp isNq b q = q + m → q ≤ b.length → f224_9 F (kk + m + 1) (Int32.ofNat (p + 1)) (Int32.ofNat q) σ = f224_33 F (Int32.ofNat (p + 1)) (Int32.ofNat (q + m)) σ := by
    intro m
    induction m with
    | zero =>
      intro kk q hm hq
      rw [f224_9.eq_2, h.ch hb (by omega), cIo]
      rcases skp_cases (b := b) (p := q) isNq_0 with ⟨e1, e2, e3⟩ | ⟨e1, e2⟩
      · have := skp_ge (f := isNq) (b := b) (p := q + 1)
        omega
      · by_cases c : b.getD q 0 = 0
        · rw [if_pos c]
          rfl
        · rw [if_neg c, h.ch hb (by omega), cIo, if_pos ((isn q e1).elim id (fun g => absurd g c))]
          rfl
    | succ m ih =>
      intro kk q hm hq
      rcases skp_cases (b := b) (p := q) isNq_0 with ⟨e1, e2, e3⟩ | ⟨e1, e2⟩
      · unfold isNq at e1
        rw [Bool.and_eq_true, Bool.not_eq_true', Bool.not_eq_true', decide_eq_false_iff_not, decide_eq_false_iff_not] at e1
        rw [show kk + (m + 1) + 1 = (kk + m + 1) + 1 by omega, f224_9.eq_2, h.ch hb (by omega), cIo, if_neg e1.2, h.ch hb (by omega), cIo, if_neg e1.1, oN_p1, ih kk (q + 1) (by omega) (by omega), show q + 1 + m = q + (m + 1) by omega]
      · omega
  have k0 := key (skp isNq b (p + 1) - (p + 1)) (F - (skp isNq b (p + 1) - (p + 1)) - 1) (p + 1) (by omega) (by omega)
  rw [show F - (skp isNq b (p + 1) - (p + 1)) - 1 + (skp isNq b (p + 1) - (p + 1)) + 1 = F by omega, show p + 1 + (skp isNq b (p + 1) - (p + 1)) = skp isNq b (p + 1) by omega] at k0
  have k1 : f224 F σ = f224_33 F (Int32.ofNat (p + 1)) (Int32.ofNat (skp isNq b (p + 1))) σ := by
    unfold f224
    rw [ltE, h.2.1.1, oN_p1]
    exact k0
  rw [k1]
  unfold f224_33
  rw [oN_p1, ltE, oN_sb s1]
  have b2 : bufM (uI σ 1315 32 (Int32.ofNat (skp isNq b (p + 1) + 1))) b := bufM_at h.1
  constructor
  · intro c
    obtain ⟨τ, t1, t2⟩ := f221_b (F := F) (σ := uI σ 1315 32 (Int32.ofNat (skp isNq b (p + 1) + 1))) (nop := nop) (d := d) (x := 1) (y := Int32.ofNat (p + 1)) (z := Int32.ofNat (skp isNq b (p + 1) - (p + 1))) (by rw [u_at, if_neg (by decide)]; exact h.2.1.2.2.2.2.2) (by rw [u_at, if_neg (by decide)]; exact h.2.1.2.1) hn hdd
    have b3 : bufM τ b := b2.fr (t2.2.2 1 (by omega)) (t2.2.1 1316 (by decide) (by omega))
    rw [t1, cVo, f152_e b3 hb (by omega), cIo, if_pos (getD_ge (by omega))]
    exact ⟨τ, rfl, (agF.mv (d := 0) (Or.inl rfl)).1.tr t2⟩
  · intro c
    obtain ⟨τ, t1, t2, t3⟩ := f221_e (F := F) (kd := 1) (ar := p + 1) (ln := skp isNq b (p + 1) - (p + 1)) (h.mv (q := skp isNq b (p + 1) + 1) (by omega)) hn (by rw [u_ne (by decide)]; exact hr) ⟨hrn, by show (1 : Nat) ≤ 12; omega, fun q => (by cases q), fun _ => by show p + 1 + (skp isNq b (p + 1) - (p + 1)) ≤ b.length; omega, fun q => by rcases q with q | q <;> cases q⟩
    rw [show f221 F 1 (Int32.ofNat (p + 1)) (Int32.ofNat (skp isNq b (p + 1) - (p + 1))) _ = oV τ from t1, cVo, t2.ch hb (by omega), cIo, if_neg (okB_nz ho c)]
    exact ⟨τ, rfl, t2, (agF.mv (d := 6) (Or.inl rfl)).tr t3 (Nat.le_refl _)⟩
end RMV
