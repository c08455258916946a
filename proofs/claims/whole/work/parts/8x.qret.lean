/-! WHAT A READER LEAVES, numbers and literals -/
def aqX (E : Nat → Nat → Prop) (up us : Nat) (σ τ : St) : Prop := τ.2.2.2 = σ.2.2.2 ∧ (∀ A, ¬ (1030 ≤ A ∧ A < 1313) → τ.1 A = σ.1 A) ∧ (∀ i, i < up → τ.1 (1193 + i) = σ.1 (1193 + i) ∧ τ.2.1 (1193 + i) = σ.2.1 (1193 + i) ∧ ∀ j, ¬ E (1193 + i) j → τ.2.2.1 (1193 + i) j = σ.2.2.1 (1193 + i) j) ∧ (∀ i, i < us → τ.1 (1033 + 2 * i) = σ.1 (1033 + 2 * i) ∧ ∀ j, ¬ E (1033 + 2 * i) j → τ.2.2.1 (1033 + 2 * i) j = σ.2.2.1 (1033 + 2 * i) j)
section AQX
variable {E E' : Nat → Nat → Prop} {up us u2 s2 : Nat} {σ τ υ : St}
theorem aqP.x (h : aqP up us σ τ) : aqX E up us σ τ := ⟨h.1, h.2.1, fun i hi => ⟨(h.2.2.1 i hi).1, (h.2.2.1 i hi).2.1, fun j _ => by rw [(h.2.2.1 i hi).2.2]⟩, fun i hi => ⟨(h.2.2.2 i hi).1, fun j _ => by rw [(h.2.2.2 i hi).2]⟩⟩
theorem aqX.p (h : aqX E up us σ τ) (h1 : ∀ i j, i < u2 → ¬ E (1193 + i) j) (h2 : ∀ i j, i < s2 → ¬ E (1033 + 2 * i) j) (hu : u2 ≤ up) (hs : s2 ≤ us) : aqP u2 s2 σ τ := ⟨h.1, h.2.1, fun i hi => ⟨(h.2.2.1 i (by omega)).1, (h.2.2.1 i (by omega)).2.1, funext fun j => (h.2.2.1 i (by omega)).2.2 j (h1 i j hi)⟩, fun i hi => ⟨(h.2.2.2 i (by omega)).1, funext fun j => (h.2.2.2 i (by omega)).2 j (h2 i j hi)⟩⟩
theorem aqX.tr (h : aqX E up us σ τ) (g : aqX E' u2 s2 τ υ) (hu : up ≤ u2) (hs : us ≤ s2) (h1 : ∀ i j, i < up → E' (1193 + i) j → E (1193 + i) j) (h2 : ∀ i j, i < us → E' (1033 + 2 * i) j → E (1033 + 2 * i) j) : aqX E up us σ υ := by
  refine ⟨by rw [g.1, h.1], fun A hA => by rw [g.2.1 A hA, h.2.1 A hA], fun i hi => ?_, fun i hi => ?_⟩
  · have a := h.2.2.1 i hi
    have c := g.2.2.1 i (by omega)
    exact ⟨by rw [c.1, a.1], by rw [c.2.1, a.2.1], fun j hj => by rw [c.2.2 j (fun q => hj (h1 i j hi q)), a.2.2 j hj]⟩
  · have a := h.2.2.2 i hi
    have c := g.2.2.2 i (by omega)
    exact ⟨by rw [c.1, a.1], fun j hj => by rw [c.2 j (fun q => hj (h2 i j hi q)), a.2 j hj]⟩
theorem aqX.z (h : aqX E up us σ τ) : aqP 0 0 σ τ := ⟨h.1, h.2.1, fun i hi => absurd hi (Nat.not_lt_zero _), fun i hi => absurd hi (Nat.not_lt_zero _)⟩
theorem aqP.z (h : aqP up us σ τ) : aqP 0 0 σ τ := h.wk (Nat.zero_le _) (Nat.zero_le _)
theorem aqP.t0 (h : aqP 0 0 σ τ) (g : aqP 0 0 τ υ) : aqP 0 0 σ υ := h.tr g (Nat.le_refl _) (Nat.le_refl _)
end AQX
def rtE (b : List Int32) (ns : List Nd) (k : Nat) (SM : Nat → Sm) (r : Rs) (σ : St) (up us : Nat) (x : Option (Nat × Ev)) : Prop := (x = none → ∃ τ, r = oT 10 τ ∧ aqP 0 0 σ τ) ∧ ∀ y, x = some y → ∃ (τ : St) (a u2 s2 : Nat) (SM' : Nat → Sm), r = some (.inl (some (.ref (1193 + a))), τ) ∧ aqP up us σ τ ∧ cQP b τ y.1 u2 s2 ∧ (∀ i, i < us → SM' i = SM i) ∧ (up ≤ u2 ∧ us ≤ s2 ∧ u2 ≤ y.1 ∧ 3 * s2 ≤ 2 * y.1 + 2) ∧ rep b ns SM' τ k a y.2 up u2 us s2 ∧ τ.2.2.1 (1193 + a) 3 = .null ∧ τ.1 (1193 + a) 4 = 0
def rtS (b : List Int32) (ns : List Nd) (k : Nat) (SM : Nat → Sm) (r : Rs) (σ : St) (up us : Nat) (x : Option (Nat × Sm)) : Prop := (x = none → ∃ τ, r = oT 10 τ ∧ aqP 0 0 σ τ) ∧ ∀ y, x = some y → ∃ (τ : St) (u2 s2 : Nat) (SM' : Nat → Sm), r = some (.inl (some (.ref (1033 + 2 * us))), τ) ∧ aqP up us σ τ ∧ cQP b τ y.1 u2 s2 ∧ (∀ i, i < us → SM' i = SM i) ∧ (up ≤ u2 ∧ us < s2 ∧ u2 ≤ y.1 ∧ 3 * s2 ≤ 2 * y.1 + 2) ∧ stR b ns SM' (rep b ns SM' τ k) τ us y.2 up u2 us s2 ∧ τ.2.2.1 (1033 + 2 * us) 6 = .null
def rtP (b : List Int32) (ns : List Nd) (k : Nat) (SM : Nat → Sm) (r : Rs) (σ : St) (up us : Nat) (x : Option (Nat × Sm)) : Prop := (x = none → ∃ τ, r = oT 10 τ ∧ aqP 0 0 σ τ) ∧ ∀ y, x = some y → ∃ (τ : St) (u2 s2 : Nat) (SM' : Nat → Sm), r = some (.inl (some (.ref (1193 + up))), τ) ∧ aqP up us σ τ ∧ cQP b τ y.1 u2 s2 ∧ (∀ i, i < us → SM' i = SM i) ∧ (up < u2 ∧ us ≤ s2 ∧ u2 ≤ y.1 ∧ 3 * s2 ≤ 2 * y.1 + 2) ∧ ptR b ns SM' (rep b ns SM' τ k) τ up y.2 up u2 us s2 ∧ τ.2.2.1 (1193 + up) 3 = .null ∧ τ.1 (1193 + up) 4 = 0
section QRT
variable {F p up us : Nat} {b : List Int32} {ns : List Nd} {SM : Nat → Sm} {σ : St}
theorem dgC_0 {m q : Nat} (h : isDig (b.getD q 0) = false) : dgC b q m = 0 := by
  cases m with
  | zero => rfl
  | succ m =>
    unfold dgC
    rw [if_neg (by rw [h]; decide)]
theorem f56_e {k : Nat} (hF : 500 ≤ F) (hb : b.length ≤ 120) (h : cQP b σ p up us) (hu : up ≤ p) (hs : 3 * us ≤ 2 * p) (hd : isDig (b.getD p 0) = true) (hev : ∀ y, rdN b p = some y → evOK ns y.2) : rtE b ns (k + 1) SM (f56 F σ) σ up us (rdN b p) := by
  have hp := h.2.2.2.2.1
  have h7 := h.2.2.2.2.2.2.1
  have hl := dig_lt hd
  have hup : up < 120 := by omega
  have loop : ∀ (m kk d : Nat) (σ' : St), d + m = 6 → cQP b σ' (p + d) (up + 1) us → aqP up us σ σ' → σ'.2.1 (1193 + up) 8 = Int64.ofInt (dgN b p d) → σ'.1 (1193 + up) 0 = 0 → σ'.1 (1193 + up) 4 = 0 → σ'.2.2.1 (1193 + up) 3 = .null → ∃ τ, f56_8 F (kk + m + 1) (1193 + up) (Int32.ofNat d) σ' = some (.inl (some (.ref (1193 + up))), τ) ∧ cQP b τ (p + d + dgC b (p + d) m) (up + 1) us ∧ aqP up us σ τ ∧ τ.2.1 (1193 + up) 8 = Int64.ofInt (dgN b p (d + dgC b (p + d) m)) ∧ τ.1 (1193 + up) 0 = 0 ∧ τ.1 (1193 + up) 4 = 0 ∧ τ.2.2.1 (1193 + up) 3 = .null := by
    intro m
    induction m with
    | zero =>
      intro kk d σ' hd2 g1 g2 g3 g4 g5 g6
      refine ⟨σ', ?_, g1, g2, g3, g4, g5, g6⟩
      rw [f56_8.eq_2, if_neg (show ¬ Int32.ofNat d < 6 from fun g => by have := (oN_lt (q := 6) (by omega) (by decide)).mp g; omega)]
    | succ m ih =>
      intro kk d σ' hd2 g1 g2 g3 g4 g5 g6
      rw [show kk + (m + 1) + 1 = (kk + m + 1) + 1 by omega, f56_8.eq_2, if_pos (show Int32.ofNat d < 6 from (oN_lt (q := 6) (by omega) (by decide)).mpr (by omega)), ltE, g1.ch hb, cIo, f23_e, cIo, ifb]
      by_cases c : isDig (b.getD (p + d) 0) = true
      · have hl2 := dig_lt c
        have st : σ'.2.1 (1193 + up) 8 * 10 + (b.getD (p + d) 0 - 48 : Int32).toInt64 = Int64.ofInt (dgN b p (d + 1)) := by
          rw [g3]
          exact dg_cls c
        rw [if_pos c, ltE, ltE, g1.ch hb, cIo, ltE, ltE, ltE, st, oN_p1]
        have e0 : (uJ σ' (1193 + up) 8 (Int64.ofInt (dgN b p (d + 1)))).1 1030 5 = Int32.ofNat (p + d) := g1.2.1
        rw [e0, oN_p1]
        have g1' : cQP b (uJ σ' (1193 + up) 8 (Int64.ofInt (dgN b p (d + 1)))) (p + d) (up + 1) us := g1
        have a2 : aqP up us σ (uI (uJ σ' (1193 + up) 8 (Int64.ofInt (dgN b p (d + 1)))) 1030 5 (Int32.ofNat (p + d + 1))) := by
          have a1 : aqP up us σ' (uJ σ' (1193 + up) 8 (Int64.ofInt (dgN b p (d + 1)))) := ⟨rfl, fun _ _ => rfl, fun i hi => ⟨rfl, uJ_ne (by omega), rfl⟩, fun i hi => ⟨rfl, rfl⟩⟩
          exact (g2.tr a1 (Nat.le_refl _) (Nat.le_refl _)).tr (aqP.mv (up := up) (us := us)) (Nat.le_refl _) (Nat.le_refl _)
        obtain ⟨τ, t1, t2, t3, t4, t5⟩ := ih kk (d + 1) (uI (uJ σ' (1193 + up) 8 (Int64.ofInt (dgN b p (d + 1)))) 1030 5 (Int32.ofNat (p + d + 1))) (by omega) (g1'.mv (q := p + d + 1) (by omega)) a2 (by rw [xI2]; exact uJ_at) (by rw [u_ne (by omega)]; exact g4) (by rw [u_ne (by omega)]; exact g5) g6
        have e1 : dgC b (p + d) (m + 1) = dgC b (p + d + 1) m + 1 := by
          show (if isDig (b.getD (p + d) 0) = true then dgC b (p + d + 1) m + 1 else 0) = _
          rw [if_pos c]
        refine ⟨τ, t1, ?_, t3, ?_, t5⟩
        · rw [e1]
          rw [show p + (d + 1) + dgC b (p + (d + 1)) m = p + d + (dgC b (p + d + 1) m + 1) by rw [show p + (d + 1) = p + d + 1 by omega]; omega] at t2
          exact t2
        · rw [e1]
          rw [show d + 1 + dgC b (p + (d + 1)) m = d + (dgC b (p + d + 1) m + 1) by rw [show p + (d + 1) = p + d + 1 by omega]; omega] at t4
          exact t4
      · rw [if_neg c]
        rw [Bool.not_eq_true] at c
        rw [dgC_0 c]
        exact ⟨σ', rfl, g1, g2, g3, g4, g5, g6⟩
  have f := nwP.f (σ := σ) (up := up) (s := 0)
  obtain ⟨τ, t1, t2, t3, t4, t5, t6, t7⟩ := loop 6 (F - 7) 0 (nwP σ up 0) (by omega) (nwP.cp h hup) (nwP.ag hup h7) (by rw [f.2.2.2.1]; rfl) f.1 f.2.1 f.2.2.2.2.1
  rw [show F - 7 + 6 + 1 = F by omega] at t1
  refine ⟨fun hx => (by cases hx), fun y hy => ?_⟩
  have he := hev y hy
  unfold rdN at hy
  injection hy with hy
  subst hy
  have hc := dgC_pos (m := 5) hd
  refine ⟨τ, up, up + 1, us, SM, ?_, t3, ?_, fun _ _ => rfl, ⟨by omega, Nat.le_refl _, ?_, ?_⟩, ⟨⟨Nat.le_refl _, by omega, Nat.le_refl _⟩, he, Or.inl ⟨t5, rfl, dgN b p (dgC b p 6), ?_, rfl⟩⟩, t7, t6⟩
  · unfold f56
    rw [f43_e h hup, cRo, if_pos (prt_f up hup)]
    exact t1
  · exact t2
  · show up + 1 ≤ p + dgC b p 6
    have : 0 < dgC b p 6 := hc
    omega
  · show 3 * us ≤ 2 * (p + dgC b p 6) + 2
    omega
  · rw [t4, Nat.zero_add]
    rfl
theorem skp_end {f : Int32 → Bool} (h0 : f 0 = false) : ∀ (m q : Nat), skp f b q = q + m → f (b.getD (q + m) 0) = false
  | 0, q, h => by
    rcases skp_cases (b := b) (p := q) h0 with ⟨e1, e2, e3⟩ | ⟨e1, e2⟩
    · have := skp_ge (f := f) (b := b) (p := q + 1)
      omega
    · exact e1
  | m + 1, q, h => by
    rcases skp_cases (b := b) (p := q) h0 with ⟨e1, e2, e3⟩ | ⟨e1, e2⟩
    · have := skp_end h0 m (q + 1) (by omega)
      rw [show q + 1 + m = q + (m + 1) by omega] at this
      exact this
    · omega
theorem isNq_0 : isNq 0 = false := by decide
theorem f57_e {k : Nat} (hF : 500 ≤ F) (hb : b.length ≤ 120) (ho : okB b) (h : cQP b σ p up us) (hu : up ≤ p) (hs : 3 * us ≤ 2 * p) (hd : b.getD p 0 = 39) (hev : ∀ y, rdT1 b p = some y → evOK ns y.2) : rtE b ns (k + 1) SM (f57 F σ) σ up us (rdT1 b p) := by
  have hp := h.2.2.2.2.1
  have h7 := h.2.2.2.2.2.2.1
  have hl := ch_lt hd (by decide)
  have hup : up < 120 := by omega
  have s1 := skp_ge (f := isNq) (b := b) (p := p + 1)
  have s2 := skp_le (f := isNq) (b := b) (p := p + 1) (by omega)
  have f := nwP.f (σ := σ) (up := up) (s := 5)
  have c0 := nwP.cp (s := 5) h hup
  have c1 := c0.mv (q := p + 1) (by omega)
  have c2 : ∀ q, q ≤ b.length → cQP b (uI (uI (uI (nwP σ up 5) 1030 5 (Int32.ofNat (p + 1))) (1193 + up) 10 (Int32.ofNat (p + 1))) 1030 5 (Int32.ofNat q)) q (up + 1) us := by
    intro q hq
    refine cQP.mv (p := p + 1) ?_ hq
    obtain ⟨g1, g2, g3, g4, g5, g6, g7, g8⟩ := c1
    refine ⟨g1.fr (u_ne (by omega)) (u_ne (by omega)), by rw [u_ne (by omega)]; exact g2, by rw [u_ne (by omega)]; exact g3, by rw [u_ne (by omega)]; exact g4, g5, g6, g7, fun i hi => ?_⟩
    rw [u_ne (by omega)]
    exact g8 i hi
  have loop : ∀ (m kk q : Nat), skp isNq b q = q + m → p + 1 ≤ q → q ≤ b.length → f57_20 F (kk + m + 1) (1193 + up) (uI (uI (uI (nwP σ up 5) 1030 5 (Int32.ofNat (p + 1))) (1193 + up) 10 (Int32.ofNat (p + 1))) 1030 5 (Int32.ofNat q)) = f57_63 F (1193 + up) (uI (uI (uI (nwP σ up 5) 1030 5 (Int32.ofNat (p + 1))) (1193 + up) 10 (Int32.ofNat (p + 1))) 1030 5 (Int32.ofNat (q + m))) := by
    intro m
    induction m with
    | zero =>
      intro kk q h1 h2 h3
      have cc := c2 q h3
      rw [f57_20.eq_2, ltE, ltE, cc.2.1, cc.1.1]
      by_cases g : q < b.length
      · rw [if_pos ((oN_lt (by omega) (by omega)).mpr g), ltE, f92_e cc.1 hb (by omega), cIo]
        have e : b.getD q 0 = 39 := by
          rcases skp_cases (b := b) (p := q) isNq_0 with ⟨e1, e2, e3⟩ | ⟨e1, e2⟩
          · have := skp_ge (f := isNq) (b := b) (p := q + 1)
            omega
          · unfold isNq at e1
            rw [Bool.and_eq_false_iff, Bool.not_eq_false', Bool.not_eq_false', decide_eq_true_eq, decide_eq_true_eq] at e1
            exact e1.elim id (fun z => absurd z (okB_nz ho g))
        rw [if_pos e]
        rfl
      · rw [if_neg (fun z => g ((oN_lt (by omega) (by omega)).mp z))]
        rfl
    | succ m ih =>
      intro kk q h1 h2 h3
      have cc := c2 q h3
      rcases skp_cases (b := b) (p := q) isNq_0 with ⟨e1, e2, e3⟩ | ⟨e1, e2⟩
      · have e4 : ¬ b.getD q 0 = 39 := by
          unfold isNq at e1
          rw [Bool.and_eq_true, Bool.not_eq_true', decide_eq_false_iff_not] at e1
          exact e1.1
        rw [show kk + (m + 1) + 1 = (kk + m + 1) + 1 by omega, f57_20.eq_2, ltE, ltE, cc.2.1, cc.1.1, if_pos ((oN_lt (by omega) (by omega)).mpr e2), ltE, f92_e cc.1 hb (by omega), cIo, if_neg e4, ltE, cc.2.1, oN_p1, ltE, uI_uI, ih kk (q + 1) (by omega) (by omega) (by omega), show q + 1 + m = q + (m + 1) by omega]
      · omega
  have hlp := loop (skp isNq b (p + 1) - (p + 1)) (F - (skp isNq b (p + 1) - (p + 1)) - 1) (p + 1) (by omega) (Nat.le_refl _) (by omega)
  rw [show F - (skp isNq b (p + 1) - (p + 1)) - 1 + (skp isNq b (p + 1) - (p + 1)) + 1 = F by omega, show p + 1 + (skp isNq b (p + 1) - (p + 1)) = skp isNq b (p + 1) by omega] at hlp
  have cs := c2 (skp isNq b (p + 1)) s2
  have e57 : f57 F σ = f57_63 F (1193 + up) (uI (uI (uI (nwP σ up 5) 1030 5 (Int32.ofNat (p + 1))) (1193 + up) 10 (Int32.ofNat (p + 1))) 1030 5 (Int32.ofNat (skp isNq b (p + 1)))) := by
    unfold f57
    rw [f43_e h hup, cRo, if_pos (prt_f up hup), f50_e hb c0, if_pos hd, cVo, ltE, c1.2.1, ltE, ← hlp]
    have e : uI (uI (uI (nwP σ up 5) 1030 5 (Int32.ofNat (p + 1))) (1193 + up) 10 (Int32.ofNat (p + 1))) 1030 5 (Int32.ofNat (p + 1)) = uI (uI (nwP σ up 5) 1030 5 (Int32.ofNat (p + 1))) (1193 + up) 10 (Int32.ofNat (p + 1)) := uI_same (by rw [u_ne (by omega)]; exact c1.2.1)
    rw [e]
  have cf : cQP b (uI (uI (uI (uI (nwP σ up 5) 1030 5 (Int32.ofNat (p + 1))) (1193 + up) 10 (Int32.ofNat (p + 1))) 1030 5 (Int32.ofNat (skp isNq b (p + 1)))) (1193 + up) 11 (Int32.ofNat (skp isNq b (p + 1)))) (skp isNq b (p + 1)) (up + 1) us := by
    obtain ⟨g1, g2, g3, g4, g5, g6, g7, g8⟩ := cs
    refine ⟨g1.fr (u_ne (by omega)) (u_ne (by omega)), by rw [u_ne (by omega)]; exact g2, by rw [u_ne (by omega)]; exact g3, by rw [u_ne (by omega)]; exact g4, g5, g6, g7, fun i hi => ?_⟩
    rw [u_ne (by omega)]
    exact g8 i hi
  have ag : ∀ x, aqP up us σ (uI (uI (uI (uI (uI (nwP σ up 5) 1030 5 (Int32.ofNat (p + 1))) (1193 + up) 10 (Int32.ofNat (p + 1))) 1030 5 (Int32.ofNat (skp isNq b (p + 1)))) (1193 + up) 11 (Int32.ofNat (skp isNq b (p + 1)))) 1030 5 x) := by
    intro x
    refine (nwP.ag (s := 5) hup h7).tr (u2 := up) (s2 := us) ⟨rfl, fun A hA => ?_, fun i hi => ⟨?_, rfl, rfl⟩, fun i hi => ⟨?_, rfl⟩⟩ (Nat.le_refl _) (Nat.le_refl _)
    · rw [u_ne (by omega), u_ne (by omega), u_ne (by omega), u_ne (by omega), u_ne (by omega)]
    · rw [u_ne (by omega), u_ne (by omega), u_ne (by omega), u_ne (by omega), u_ne (by omega)]
    · rw [u_ne (by omega), u_ne (by omega), u_ne (by omega), u_ne (by omega), u_ne (by omega)]
  rw [e57]
  unfold f57_63
  rw [ltE, cs.2.1, ltE, f50_e hb cf]
  unfold rdT1
  by_cases c : skp isNq b (p + 1) < b.length
  · have e : b.getD (skp isNq b (p + 1)) 0 = 39 := by
      have e1 := skp_end (b := b) isNq_0 (skp isNq b (p + 1) - (p + 1)) (p + 1) (by omega)
      rw [show p + 1 + (skp isNq b (p + 1) - (p + 1)) = skp isNq b (p + 1) by omega] at e1
      unfold isNq at e1
      rw [Bool.and_eq_false_iff, Bool.not_eq_false', Bool.not_eq_false', decide_eq_true_eq, decide_eq_true_eq] at e1
      exact e1.elim id (fun z => absurd z (okB_nz ho c))
    rw [if_pos c, if_pos e, cVo]
    refine ⟨fun hx => (by cases hx), fun y hy => ?_⟩
    have he : evOK ns y.2 := hev y (by unfold rdT1; rw [if_pos c]; exact hy)
    injection hy with hy
    subst hy
    refine ⟨_, up, up + 1, us, SM, rfl, ag _, cf.mv (by omega), fun _ _ => rfl, ⟨by omega, Nat.le_refl _, by show up + 1 ≤ skp isNq b (p + 1) + 1; omega, by show 3 * us ≤ 2 * (skp isNq b (p + 1) + 1) + 2; omega⟩, ⟨⟨Nat.le_refl _, by omega, Nat.le_refl _⟩, he, Or.inr (Or.inr (Or.inr (Or.inr (Or.inr (Or.inl ⟨?_, rfl, p + 1, skp isNq b (p + 1), s1, s2, ?_, ?_, rfl⟩)))))⟩, f.2.2.2.2.1, ?_⟩
    · simp only [xI1]
      repeat rw [if_neg (by omega)]
      exact f.1
    · simp only [xI1]
      rw [if_neg (by omega), if_neg (by omega), if_neg (by omega), if_pos (by simp)]
    · simp only [xI1]
      rw [if_neg (by omega), if_pos (by simp)]
    · simp only [xI1]
      repeat rw [if_neg (by omega)]
      exact f.2.1
  · have e : ¬ b.getD (skp isNq b (p + 1)) 0 = 39 := by
      rw [getD_ge (by omega)]
      decide
    rw [if_neg c, if_neg e, cVt]
    refine ⟨fun _ => ⟨_, rfl, ?_⟩, fun y hy => by cases hy⟩
    have := (ag (Int32.ofNat (skp isNq b (p + 1)))).z
    rw [uI_same cf.2.1] at this
    exact this
end QRT
