/-! THE REFERENCE READS predicates -/
def mCn (p np nst npr nop : Nat) : Prop := np ≤ p ∧ nst ≤ p ∧ npr ≤ p ∧ nop ≤ p
def rK (y : Nat) : Nat := if y = 6 then 10 else if y = 1 then 9 else 8
theorem rK_le {y : Nat} : 8 ≤ rK y ∧ rK y ≤ 10 := by
  unfold rK
  split
  · omega
  · split <;> omega
def rBad (F : Nat) (b : List Int32) (y : Nat) (σ : St) (p : Nat) : Prop := ∃ τ c, Rn F y σ 8 τ c ∧ c + 8 * p ≤ 8 * b.length + rK y ∧ agR0 σ τ
def rgX (F : Nat) (b : List Int32) (ns : List Nd) (d : Nat) (E : Nat → Option (Nat × Ev)) : Prop := ∀ σ p np nst npr nop T PT r, mQ b σ p d np nst npr nop T → mCn p np nst npr nop → σ.1 1356 d = Int32.ofNat r → r < npr → σ.1 1357 d = 0 → σ.1 1358 d = 0 → (σ.1 1353 d = 1 ∨ σ.1 1353 d = 3) → (E p = none → rBad F b 6 σ p) ∧ ∀ y, E p = some y → (isDig (b.getD y.1 0) = true ∧ rBad F b 6 σ p) ∨ ∃ (τ : St) (c su co np' nst' npr' nop' : Nat) (T' : Tb) (PT' : Nat → Sm), Rn F 6 σ 7 τ c ∧ c + 8 * p + 2 ≤ 8 * y.1 ∧ mQ b τ y.1 d np' nst' npr' nop' T' ∧ agR d σ τ ∧ (τ.1 1357 d = Int32.ofNat su ∧ (su = 0 ∨ su = 7 ∨ su = 8)) ∧ (τ.1 1358 d = Int32.ofNat co ∧ (co = 0 ∨ (9 ≤ co ∧ co ≤ 12))) ∧ ¬ (b.getD y.1 0 = 43 ∨ b.getD y.1 0 = 45) ∧ (¬ co = 0 ∨ ∀ o q, ¬ cmO b y.1 = some (some o, q)) ∧ Ex T T' np nst npr nop np' nst' npr' nop' 9999 9999 r ∧ gdT ns b PT PT' T' np npr np' nst' npr' nop' ∧ (np' ≤ y.1 ∧ nst' ≤ y.1 ∧ npr' ≤ y.1 ∧ nxC (nxC nop' su) co + p ≤ nop + y.1) ∧ ∀ n x t, skM ns b PT' (adC (adC T' nop' r su) (nxC nop' su) r co) r n x t (nxC (nxC nop' su) co) = y.2 n x t :: skM ns b PT T r n x t nop
section RPD
variable {F d : Nat} {b : List Int32} {ns : List Nd} {E : Nat → Option (Nat × Ev)}
theorem rBad.bk {y z p q c : Nat} {σ τ : St} (h : rBad F b z τ q) (hr : Rn F y σ z τ c) (hc : c + 8 * p + 2 ≤ 8 * q) (ha : agR0 σ τ) : rBad F b y σ p := by
  obtain ⟨υ, e, h1, h2, h3⟩ := h
  have k1 := rK_le (y := y)
  have k2 := rK_le (y := z)
  exact ⟨υ, c + e, hr.tr h1, by omega, ha.tr h3⟩
theorem rBad.at {y p : Nat} {σ τ : St} (h : Rn F y σ 8 τ 1) (hp : p ≤ b.length) (ha : agR0 σ τ) : rBad F b y σ p := ⟨τ, 1, h, by have := rK_le (y := y); omega, ha⟩
theorem rBad.b1 {p q : Nat} {σ τ : St} (h : rBad F b 2 τ q) (hr : Rn F 1 σ 2 τ 1) (hc : p ≤ q) (ha : agR0 σ τ) : rBad F b 1 σ p := by
  obtain ⟨υ, e, h1, h2, h3⟩ := h
  have k1 : rK 1 = 9 := rfl
  have k2 : rK 2 = 8 := rfl
  exact ⟨υ, 1 + e, hr.tr h1, by omega, ha.tr h3⟩
theorem rBad.b6 {p : Nat} {σ τ : St} (h : rBad F b 1 τ p) (hr : Rn F 6 σ 1 τ 1) (ha : agR0 σ τ) : rBad F b 6 σ p := by
  obtain ⟨υ, e, h1, h2, h3⟩ := h
  have k1 : rK 1 = 9 := rfl
  have k2 : rK 6 = 10 := rfl
  exact ⟨υ, 1 + e, hr.tr h1, by omega, ha.tr h3⟩
theorem nxC_le {nop co : Nat} : nop ≤ nxC nop co := by
  unfold nxC
  split <;> omega
theorem Ex.aC {T : Tb} {np nst npr nop r co k0 s0 : Nat} : Ex T (adC T nop r co) np nst npr nop np nst npr (nxC nop co) k0 s0 r := by
  unfold adC nxC
  by_cases c : co = 0
  · rw [if_pos c, if_pos c]
    exact Ex.rf
  · rw [if_neg c, if_neg c]
    exact Ex.aO (w := (r, co, 0, 0))
theorem TW.aC {T : Tb} {np nst npr nop r co : Nat} (hW : TW b T np nst npr nop) (hr : r < npr) (hc : co = 0 ∨ (6 ≤ co ∧ co ≤ 12)) : TW b (adC T nop r co) np nst npr (nxC nop co) := by
  unfold adC nxC
  by_cases c : co = 0
  · rw [if_pos c, if_pos c]
    exact hW
  · rw [if_neg c, if_neg c]
    exact hW.aO (opW_b hr (by omega) (by omega))
theorem skM_aR {PT : Nat → Sm} {T : Tb} {npr s r n x t : Nat} : ∀ m, skM ns b PT (adR T npr s) r n x t m = skM ns b PT T r n x t m
  | 0 => rfl
  | m + 1 => by
    unfold skM
    rw [skM_aR m]
    rfl
/-- behind an expression: all that is pending is emitted, and a bracket or parenthesis must stand -/
theorem cls_q {τ : St} {p np nst npr nop r su co : Nat} {T : Tb} (hb : b.length ≤ 120) (h : mQ b τ p (d + 1) np nst npr nop T) (hn : nxC (nxC nop su) co ≤ p) (hr : τ.1 1356 (d + 1) = Int32.ofNat r) (hrn : r < npr) (hsu : τ.1 1357 (d + 1) = Int32.ofNat su ∧ (su = 0 ∨ su = 7 ∨ su = 8)) (hco : τ.1 1358 (d + 1) = Int32.ofNat co ∧ (co = 0 ∨ (9 ≤ co ∧ co ≤ 12))) (hs : ¬ (b.getD p 0 = 43 ∨ b.getD p 0 = 45)) (hc : ¬ co = 0 ∨ ∀ o q, ¬ cmO b p = some (some o, q)) (hf : τ.1 1353 (d + 1) = 1) : (b.getD p 0 = 93 → ∃ υ, Rn F 7 τ 3 υ 1 ∧ mQ b υ (p + 1) d np nst npr (nxC (nxC nop su) co) (adC (adC T nop r su) (nxC nop su) r co) ∧ agF (d + 1) τ υ) ∧ (¬ b.getD p 0 = 93 → rBad F b 7 τ p) := by
  have hp := h.2.2.2.2.1
  have l1 := nxC_le (nop := nop) (co := su)
  have l2 := nxC_le (nop := nxC nop su) (co := co)
  obtain ⟨σA, a1, a2, a3, a4, a5⟩ := f225_A (F := F) h (by omega) hr hrn hsu.1 hsu.2
  have z := (f225_E (F := F) (r := r) (co := co) hb a2 (by omega) (by rw [a3.2.2]; exact hr) hrn (by rw [a5]; exact hco.1) hco.2 hs hc).1 (by rw [a3.2.1]; exact hf)
  refine ⟨fun c => ?_, fun c => ?_⟩
  · obtain ⟨υ, t1, t2, t3⟩ := z.1 c
    exact ⟨υ, Rn.m7 (by rw [a1, t1]; rfl), t2, a3.1.tr (t3.wk (e := d + 1) (by have := h.2.2.2.2.2.1; omega)) (Nat.le_refl _)⟩
  · obtain ⟨υ, t1, t2⟩ := z.2 c
    exact rBad.at (Rn.m7 (by rw [a1, t1]; rfl)) hp (a3.1.1.tr t2)
theorem rQ (hb : b.length ≤ 120) (hE : d < 4 → rgX F b ns (d + 1) E) (hE4 : ¬ d < 4 → ∀ p, E p = none) (hgE : gE ns b E) : ∀ (n p : Nat) (σ : St) (np nst npr nop s : Nat) (T : Tb) (PT : Nat → Sm), mQ b σ p d np nst npr nop T → mCn p np nst npr nop → b.length + 2 ≤ n + p → σ.1 1355 d = Int32.ofNat s → s < nst → (rdQ b E n p = none → rBad F b 3 σ p) ∧ ∀ y, rdQ b E n p = some y → ∃ (τ : St) (c np' nst' npr' nop' : Nat) (T' : Tb) (PT' : Nat → Sm), Rn F 3 σ 4 τ c ∧ c + 8 * p ≤ 8 * y.1 + 1 ∧ mQ b τ y.1 d np' nst' npr' nop' T' ∧ agF (d + 1) σ τ ∧ Ex T T' np nst npr nop np' nst' npr' nop' 9999 s 9999 ∧ gdT ns b PT PT' T' np npr np' nst' npr' nop' ∧ (mCn y.1 np' nst' npr' nop' ∧ nop' + p ≤ nop + y.1) ∧ ∀ x, prF ns b PT' T' nop' s x npr' = y.2.foldl (filt ns.length (bkA (T.2.1 s).2.1)) (prF ns b PT T nop s x npr) := by
  intro n
  induction n with
  | zero =>
    intro p σ np nst npr nop s T PT h hm hf
    have := h.2.2.2.2.1
    omega
  | succ n ih =>
    intro p σ np nst npr nop s T PT h hm hf hst hs
    have hp := h.2.2.2.2.1
    have hW := h.2.2.2.1
    obtain ⟨m1, m2, m3, m4⟩ := hm
    obtain ⟨x1, x2, x3⟩ := f217_e (F := F) hb h (by omega) hst hs
    by_cases c1 : b.getD p 0 = 91
    · have hl := ch_lt c1 (by decide)
      by_cases c2 : d < 4
      · obtain ⟨τ1, t1, t2, t3, t4, t5, t6, t7⟩ := x3 c1 c2
        have r1 : Rn F 3 σ 6 τ1 1 := Rn.m3 t1
        have y := hE c2 τ1 (p + 1) np nst (npr + 1) nop (adR T npr s) PT npr t2 ⟨by omega, by omega, by omega, by omega⟩ t5 (by omega) t6 t7 (Or.inl t4)
        cases hq : E (p + 1) with
        | none =>
          have e : rdQ b E (n + 1) p = none := by
            unfold rdQ
            rw [if_pos c1, hq]
          rw [e]
          exact ⟨fun _ => (y.1 hq).bk r1 (by omega) t3.1, fun z hz => by cases hz⟩
        | some z =>
          obtain ⟨z1, z2, z3⟩ := hgE _ _ (by omega) hq
          have bad : ¬ b.getD z.1 0 = 93 → rBad F b 6 τ1 (p + 1) → (rdQ b E (n + 1) p = none → rBad F b 3 σ p) ∧ ∀ y, rdQ b E (n + 1) p = some y → ∃ (τ : St) (c np' nst' npr' nop' : Nat) (T' : Tb) (PT' : Nat → Sm), Rn F 3 σ 4 τ c ∧ c + 8 * p ≤ 8 * y.1 + 1 ∧ mQ b τ y.1 d np' nst' npr' nop' T' ∧ agF (d + 1) σ τ ∧ Ex T T' np nst npr nop np' nst' npr' nop' 9999 s 9999 ∧ gdT ns b PT PT' T' np npr np' nst' npr' nop' ∧ (mCn y.1 np' nst' npr' nop' ∧ nop' + p ≤ nop + y.1) ∧ ∀ x, prF ns b PT' T' nop' s x npr' = y.2.foldl (filt ns.length (bkA (T.2.1 s).2.1)) (prF ns b PT T nop s x npr) := by
            intro c3 hbd
            have e : rdQ b E (n + 1) p = none := by
              unfold rdQ
              rw [if_pos c1, hq]
              dsimp only
              rw [if_neg c3]
            rw [e]
            exact ⟨fun _ => hbd.bk r1 (by omega) t3.1, fun z hz => by cases hz⟩
          rcases y.2 z hq with ⟨hdg, hbd⟩ | ⟨τ2, c, su, co, np2, nst2, npr2, nop2, T2, PT2, u1, u2, u3, u4, u5, u6, u7, u8, u9, u10, u11, u12⟩
          · exact bad (fun q => by rw [q] at hdg; exact absurd hdg (by decide)) hbd
          · have hl2 := u9.1
            have cl := cls_q (F := F) (r := npr) hb u3 (by omega) (by rw [u4.2.2]; exact t5) (by omega) u5 u6 u7 u8 (by rw [u4.2.1]; exact t4)
            by_cases c3 : b.getD z.1 0 = 93
            · have hl3 := ch_lt c3 (by decide)
              obtain ⟨υ, v1, v2, v3⟩ := cl.1 c3
              have hW2 := u3.2.2.2.1
              have hW3 := v2.2.2.2.1
              have a03 : agF (d + 1) σ υ := (t3.tr u4.1 (Nat.le_refl _)).tr v3 (Nat.le_refl _)
              have ex13 : Ex (adR T npr s) (adC (adC T2 nop2 npr su) (nxC nop2 su) npr co) np nst (npr + 1) nop np2 nst2 npr2 (nxC (nxC nop2 su) co) 9999 9999 npr := (u9.tr Ex.aC (Or.inl rfl) (Or.inl rfl) (Or.inl rfl)).tr Ex.aC (Or.inl rfl) (Or.inl rfl) (Or.inl rfl)
              have ex03 : Ex T (adC (adC T2 nop2 npr su) (nxC nop2 su) npr co) np nst npr nop np2 nst2 npr2 (nxC (nxC nop2 su) co) 9999 s 9999 := by
                have e0 : Ex T (adR T npr s) np nst npr nop np nst (npr + 1) nop 9999 s 9999 := Ex.aR
                exact e0.tr ex13 (Or.inl rfl) (Or.inr (by omega)) (Or.inr (Nat.le_refl _))
              have hW1 : TW b (adR T npr s) np nst (npr + 1) nop := t2.2.2.2.1
              have g13 : gdT ns b PT PT2 (adC (adC T2 nop2 npr su) (nxC nop2 su) npr co) np (npr + 1) np2 nst2 npr2 (nxC (nxC nop2 su) co) := by
                have eA : Ex T2 (adC T2 nop2 npr su) np2 nst2 npr2 nop2 np2 nst2 npr2 (nxC nop2 su) 9999 9999 npr := Ex.aC
                have eB : Ex (adC T2 nop2 npr su) (adC (adC T2 nop2 npr su) (nxC nop2 su) npr co) np2 nst2 npr2 (nxC nop2 su) np2 nst2 npr2 (nxC (nxC nop2 su) co) 9999 9999 npr := Ex.aC
                have eAB := eA.tr eB (Or.inl rfl) (Or.inl rfl) (Or.inl rfl)
                exact gdT.tr hW1 u9 u10 hW2 eAB (gdT.nil eAB) (Or.inr (by omega)) (Or.inr (by omega)) (Or.inl (by omega))
              have sk : ∀ n x t, skM ns b PT2 (adC (adC T2 nop2 npr su) (nxC nop2 su) npr co) npr n x t (nxC (nxC nop2 su) co) = [z.2 n x t] := by
                intro n x t
                rw [u12, skM_aR, skM_new hW nop (Nat.le_refl _)]
              have g03 : gdT ns b PT PT2 (adC (adC T2 nop2 npr su) (nxC nop2 su) npr co) np npr np2 nst2 npr2 (nxC (nxC nop2 su) co) := by
                refine ⟨g13.1, g13.2.1, fun r h1 h2 n x t => ?_⟩
                by_cases c : r = npr
                · rw [c]
                  exact ⟨_, sk n x t⟩
                · exact g13.2.2 r (by omega) h2 n x t
              have pr3 : ∀ x, prF ns b PT2 (adC (adC T2 nop2 npr su) (nxC nop2 su) npr co) (nxC (nxC nop2 su) co) s x npr2 = filt ns.length (bkA (T.2.1 s).2.1) (prF ns b PT T nop s x npr) z.2 := by
                intro x
                have high : ∀ k, npr + 1 + k ≤ npr2 → prF ns b PT2 (adC (adC T2 nop2 npr su) (nxC nop2 su) npr co) (nxC (nxC nop2 su) co) s x (npr + 1 + k) = prF ns b PT2 (adC (adC T2 nop2 npr su) (nxC nop2 su) npr co) (nxC (nxC nop2 su) co) s x (npr + 1) := by
                  intro k
                  induction k with
                  | zero => exact fun _ => rfl
                  | succ k ihk =>
                    intro hk
                    show (if (adC (adC T2 nop2 npr su) (nxC nop2 su) npr co).2.2.1 (npr + 1 + k) = s then _ else _) = _
                    have := ex13.2.2.2.1 (npr + 1 + k) (by omega) (by omega)
                    rw [if_neg (by omega)]
                    exact ihk (by omega)
                have h1 := ex13.1.2.2.1
                have h2 := high (npr2 - (npr + 1)) (by omega)
                rw [show npr + 1 + (npr2 - (npr + 1)) = npr2 by omega] at h2
                have h3 : (adC (adC T2 nop2 npr su) (nxC nop2 su) npr co).2.2.1 npr = s := by
                  rw [ex13.2.1.2.2.1 npr (by omega)]
                  exact if_pos rfl
                have h4 : (adC (adC T2 nop2 npr su) (nxC nop2 su) npr co).2.1 s = T.2.1 s := ex03.2.1.2.1 s hs
                have h5 : qmM ns b PT2 (adC (adC T2 nop2 npr su) (nxC nop2 su) npr co) (nxC (nxC nop2 su) co) npr = z.2 := by
                  funext n x t
                  unfold qmM
                  rw [sk]
                  rfl
                have h6 := prF_fr (m := 0) (ns := ns) (x := x) (lo := 0) ex03 hW g03.1 hs (Or.inr (by omega)) (fun r _ _ => Nat.zero_le _) npr (Nat.le_refl _)
                rw [h2]
                show (if (adC (adC T2 nop2 npr su) (nxC nop2 su) npr co).2.2.1 npr = s then filt ns.length (bkA ((adC (adC T2 nop2 npr su) (nxC nop2 su) npr co).2.1 s).2.1) (prF ns b PT2 (adC (adC T2 nop2 npr su) (nxC nop2 su) npr co) (nxC (nxC nop2 su) co) s x npr) (qmM ns b PT2 (adC (adC T2 nop2 npr su) (nxC nop2 su) npr co) (nxC (nxC nop2 su) co) npr) else _) = _
                rw [if_pos h3, h4, h5, h6]
              have st3 : υ.1 1355 d = Int32.ofNat s := by
                rw [a03.2 d (by omega) 1355 (by decide) (by decide)]
                exact hst
              have h4 : (adC (adC T2 nop2 npr su) (nxC nop2 su) npr co).2.1 s = T.2.1 s := ex03.2.1.2.1 s hs
              generalize (adC (adC T2 nop2 npr su) (nxC nop2 su) npr co) = T3 at v2 hW3 ex03 g03 pr3 h4
              have hl3' := ex03.1
              have i2 := ih (z.1 + 1) υ np2 nst2 npr2 (nxC (nxC nop2 su) co) s T3 PT2 v2 ⟨by omega, by omega, by omega, by omega⟩ (by omega) st3 (by omega)
              have rr : Rn F 3 σ 3 υ (1 + c + 1) := (r1.tr u1).tr v1
              cases hr : rdQ b E n (z.1 + 1) with
              | none =>
                have e : rdQ b E (n + 1) p = none := by
                  unfold rdQ
                  rw [if_pos c1, hq]
                  dsimp only
                  rw [if_pos c3, hr]
                rw [e]
                exact ⟨fun _ => (i2.1 hr).bk rr (by omega) a03.1, fun z hz => by cases hz⟩
              | some w =>
                obtain ⟨τ, c5, np5, nst5, npr5, nop5, T5, PT5, w1, w2, w3, w4, w5, w6, w7, w8⟩ := i2.2 w hr
                have e : rdQ b E (n + 1) p = some (w.1, z.2 :: w.2) := by
                  unfold rdQ
                  rw [if_pos c1, hq]
                  dsimp only
                  rw [if_pos c3, hr]
                rw [e]
                refine ⟨fun hx => (by cases hx), fun y hy => ?_⟩
                injection hy with hy
                subst hy
                refine ⟨τ, 1 + c + 1 + c5, np5, nst5, npr5, nop5, T5, PT5, rr.tr w1, by show 1 + c + 1 + c5 + 8 * p ≤ 8 * w.1 + 1; omega, w3, a03.tr w4 (Nat.le_refl _), ex03.tr w5 (Or.inl rfl) (Or.inl rfl) (Or.inl rfl), gdT.tr hW ex03 g03 hW3 w5 w6 (Or.inr (by omega)) (Or.inl hs) (Or.inr (by omega)), ⟨w7.1, by show nop5 + p ≤ nop + w.1; omega⟩, fun x => ?_⟩
                rw [w8, pr3, h4]
                rfl
            · exact bad c3 ((cl.2 c3).bk u1 (by omega) u4.1.1)
      · have e : rdQ b E (n + 1) p = none := by
          unfold rdQ
          rw [if_pos c1, hE4 c2]
        rw [e]
        exact ⟨fun _ => rBad.at (Rn.m3 (x2 c1 c2)) hp agR0.rf, fun z hz => by cases hz⟩
    · have e : rdQ b E (n + 1) p = some (p, []) := by
        unfold rdQ
        rw [if_neg c1]
      rw [e]
      refine ⟨fun hx => (by cases hx), fun y hy => ?_⟩
      injection hy with hy
      subst hy
      exact ⟨σ, 1, np, nst, npr, nop, T, PT, Rn.m3 (x1 c1), by show 1 + 8 * p ≤ 8 * p + 1; omega, h, agF.rf, Ex.rf, gdT.rf, ⟨⟨m1, m2, m3, m4⟩, Nat.le_refl _⟩, fun x => rfl⟩
end RPD
