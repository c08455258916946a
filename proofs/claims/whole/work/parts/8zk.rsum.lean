/-! THE REFERENCE READS sums and comparisons -/
def rgU (F : Nat) (b : List Int32) (ns : List Nd) (d : Nat) (U : Nat → Option (Nat × Ev)) : Prop := ∀ σ p np nst npr nop T PT r, mQ b σ p d np nst npr nop T → mCn p np nst npr nop → σ.1 1356 d = Int32.ofNat r → r < npr → σ.1 1357 d = 0 → (σ.1 1353 d = 1 ∨ σ.1 1353 d = 3) → (U p = none → rBad F b 6 σ p) ∧ ∀ y, U p = some y → (isDig (b.getD y.1 0) = true ∧ rBad F b 6 σ p) ∨ ∃ (τ : St) (c su np' nst' npr' nop' : Nat) (T' : Tb) (PT' : Nat → Sm), Rn F 6 σ 7 τ c ∧ c + 8 * p + 2 ≤ 8 * y.1 ∧ mQ b τ y.1 d np' nst' npr' nop' T' ∧ agR d σ τ ∧ τ.1 1358 d = σ.1 1358 d ∧ (τ.1 1357 d = Int32.ofNat su ∧ (su = 0 ∨ su = 7 ∨ su = 8)) ∧ ¬ (b.getD y.1 0 = 43 ∨ b.getD y.1 0 = 45) ∧ Ex T T' np nst npr nop np' nst' npr' nop' 9999 9999 r ∧ gdT ns b PT PT' T' np npr np' nst' npr' nop' ∧ (np' ≤ y.1 ∧ nst' ≤ y.1 ∧ npr' ≤ y.1 ∧ nxC nop' su + p ≤ nop + y.1) ∧ ∀ n x t, skM ns b PT' (adC T' nop' r su) r n x t (nxC nop' su) = y.2 n x t :: skM ns b PT T r n x t nop
section RSU
variable {F d : Nat} {b : List Int32} {ns : List Nd} {O : Nat → Option (Nat × Ev)}
def rsV (ns : List Nd) (l : List (Bool × Ev)) (v : Ev) : Ev := fun n x t => if l = [] then v n x t else vN (sumO ns n x t l (nmV ns (v n x t)))
theorem rM (hb : b.length ≤ 120) (hO : rgO F b ns d O) (hg : gO ns b O) {r : Nat} : ∀ (m q : Nat) (σ : St) (np nst npr nop su : Nat) (T : Tb) (PT : Nat → Sm) (v : Ev) (S : Nat → Nat → Nat → List Vl), mQ b σ q d np nst npr nop T → np ≤ q ∧ nst ≤ q ∧ npr ≤ q ∧ nxC nop su ≤ q → b.length + 2 ≤ m + q → σ.1 1356 d = Int32.ofNat r → r < npr → (σ.1 1357 d = Int32.ofNat su ∧ (su = 0 ∨ su = 7 ∨ su = 8)) → (σ.1 1353 d = 1 ∨ σ.1 1353 d = 3) → (∀ n x t, skM ns b PT (adC T nop r su) r n x t (nxC nop su) = v n x t :: S n x t) → (rdM b O m q = none → rBad F b 7 σ q) ∧ ∀ y, rdM b O m q = some y → (isDig (b.getD y.1 0) = true ∧ rBad F b 7 σ q) ∨ ∃ (τ : St) (c su' np' nst' npr' nop' : Nat) (T' : Tb) (PT' : Nat → Sm), Rn F 7 σ 7 τ c ∧ c + 8 * q ≤ 8 * y.1 ∧ mQ b τ y.1 d np' nst' npr' nop' T' ∧ agR d σ τ ∧ τ.1 1358 d = σ.1 1358 d ∧ (τ.1 1357 d = Int32.ofNat su' ∧ (su' = 0 ∨ su' = 7 ∨ su' = 8)) ∧ ¬ (b.getD y.1 0 = 43 ∨ b.getD y.1 0 = 45) ∧ Ex T T' np nst npr nop np' nst' npr' nop' 9999 9999 r ∧ gdT ns b PT PT' T' np npr np' nst' npr' nop' ∧ (np' ≤ y.1 ∧ nst' ≤ y.1 ∧ npr' ≤ y.1 ∧ nxC nop' su' + q ≤ nxC nop su + y.1) ∧ ∀ n x t, skM ns b PT' (adC T' nop' r su') r n x t (nxC nop' su') = rsV ns y.2 v n x t :: S n x t := by
  intro m
  induction m with
  | zero =>
    intro q σ np nst npr nop su T PT v S h hm hf
    have := h.2.2.2.2.1
    omega
  | succ m ih =>
    intro q σ np nst npr nop su T PT v S h hm hf hr hrn hsu hfr hsk
    have hq := h.2.2.2.2.1
    have hd4 := h.2.2.2.2.2.1
    have hW := h.2.2.2.1
    have hbn := h.2.2.2.2.2.2
    have l1 := nxC_le (nop := nop) (co := su)
    by_cases c : b.getD q 0 = 43 ∨ b.getD q 0 = 45
    · have hl : q < b.length := by
        rcases c with c | c
        · exact ch_lt c (by decide)
        · exact ch_lt c (by decide)
      obtain ⟨σA, a1, a2, a3, a4, a5⟩ := f225_A (F := F) h (by omega) hr hrn hsu.1 hsu.2
      obtain ⟨σB, b1, b2, b3, b4, b5⟩ := f225_S (F := F) hb a2 c
      have r1 : Rn F 7 σ 6 σB 1 := Rn.m7 (by rw [a1, b1]; rfl)
      have aB : agR d σ σB := a3.tr b3
      have hWA := a2.2.2.2.1
      have x := hO σB (q + 1) np nst npr (nxC nop su) (adC T nop r su) PT r b2 ⟨by omega, by omega, by omega, by omega⟩ (by rw [aB.2.2]; exact hr) hrn (by rw [aB.2.1]; exact hfr)
      cases hx : O (q + 1) with
      | none =>
        have e : rdM b O (m + 1) q = none := by
          unfold rdM
          rw [if_pos c, hx]
        rw [e]
        exact ⟨fun _ => (x.1 hx).bk r1 (by omega) aB.1.1, fun y hy => by cases hy⟩
      | some z =>
        obtain ⟨z1, z2, z3⟩ := hg _ _ (by omega) hx
        rcases x.2 z hx with ⟨hdg, hbd⟩ | ⟨τ, k, np1, nst1, npr1, nop1, T1, PT1, t1, t2, t3, t4, t5, t6, t7, t8⟩
        · -- doomed: the rest reads nothing
          have nsg : ¬ (b.getD z.1 0 = 43 ∨ b.getD z.1 0 = 45) := by
            intro q
            rcases q with q | q <;> rw [q] at hdg <;> exact absurd hdg (by decide)
          have bad : rBad F b 7 σ q := hbd.bk r1 (by omega) aB.1.1
          have e : ∀ y, rdM b O (m + 1) q = some y → y.1 = z.1 := by
            intro y hy
            unfold rdM at hy
            rw [if_pos c, hx] at hy
            dsimp only at hy
            cases m with
            | zero => cases hy
            | succ m =>
              unfold rdM at hy
              rw [if_neg nsg] at hy
              injection hy with hy
              rw [← hy]
          exact ⟨fun _ => bad, fun y hy => Or.inl ⟨by rw [e y hy]; exact hdg, bad⟩⟩
        · have hW1 := t3.2.2.2.1
          have hle := t5.1
          have hbn1 := t3.2.2.2.2.2.2
          have sB : σB.1 1357 d = Int32.ofNat (if b.getD q 0 = 45 then 8 else 7) := b4
          have su1 : τ.1 1357 d = Int32.ofNat (if b.getD q 0 = 45 then 8 else 7) := by
            rw [t4.2.1]
            exact sB
          have su2 : (if b.getD q 0 = 45 then 8 else 7) = 0 ∨ (if b.getD q 0 = 45 then 8 else 7) = 7 ∨ (if b.getD q 0 = 45 then 8 else 7) = 8 := by
            split
            · exact Or.inr (Or.inr rfl)
            · exact Or.inr (Or.inl rfl)
          have nx1 : nxC nop1 (if b.getD q 0 = 45 then 8 else 7) = nop1 + 1 := by
            unfold nxC
            rw [if_neg (by split <;> decide)]
          have ad1 : adC T1 nop1 r (if b.getD q 0 = 45 then 8 else 7) = adO T1 nop1 (r, (if b.getD q 0 = 45 then 8 else 7), 0, 0) := by
            unfold adC
            rw [if_neg (by split <;> decide)]
          have sk1 : ∀ n x t, skM ns b PT1 (adC T1 nop1 r (if b.getD q 0 = 45 then 8 else 7)) r n x t (nxC nop1 (if b.getD q 0 = 45 then 8 else 7)) = vN (addO (decide (b.getD q 0 = 45)) (nmV ns (v n x t)) (nmV ns (z.2 n x t))) :: S n x t := by
            intro n x t
            rw [nx1, ad1]
            have q1 := skM_adO (ns := ns) (PT := PT1) (n := n) (x := x) (t := t) (w := (r, (if b.getD q 0 = 45 then 8 else 7), 0, 0)) hW1
            have q1 : skM ns b PT1 (adO T1 nop1 (r, (if b.getD q 0 = 45 then 8 else 7), 0, 0)) r n x t (nop1 + 1) = opF ns b PT1 (r, (if b.getD q 0 = 45 then 8 else 7), 0, 0) n x t (skM ns b PT1 T1 r n x t nop1) := q1
            rw [q1, t8, hsk]
            by_cases c5 : b.getD q 0 = 45
            · rw [if_pos c5, decide_eq_true c5]
              rfl
            · rw [if_neg c5, decide_eq_false c5]
              rfl
          have exA : Ex T T1 np nst npr nop np1 nst1 npr1 nop1 9999 9999 r := by
            have e0 : Ex T (adC T nop r su) np nst npr nop np nst npr (nxC nop su) 9999 9999 r := Ex.aC
            exact e0.tr t5 (Or.inl rfl) (Or.inl rfl) (Or.inl rfl)
          have i2 := ih z.1 τ np1 nst1 npr1 nop1 (if b.getD q 0 = 45 then 8 else 7) T1 PT1 (fun n x t => vN (addO (decide (b.getD q 0 = 45)) (nmV ns (v n x t)) (nmV ns (z.2 n x t)))) S t3 ⟨t7.1.1, t7.1.2.1, t7.1.2.2.1, by rw [nx1]; omega⟩ (by omega) (by rw [t4.1.2.2, aB.2.2]; exact hr) (by omega) ⟨su1, su2⟩ (by rw [t4.1.2.1, aB.2.1]; exact hfr) sk1
          have rr : Rn F 7 σ 7 τ (1 + k) := r1.tr t1
          have aR : agR d σ τ := aB.tr t4.1
          cases hy : rdM b O m z.1 with
          | none =>
            have e : rdM b O (m + 1) q = none := by
              unfold rdM
              rw [if_pos c, hx]
              dsimp only
              rw [hy]
            rw [e]
            exact ⟨fun _ => (i2.1 hy).bk rr (by omega) aR.1.1, fun y hy => by cases hy⟩
          | some w =>
            have e : rdM b O (m + 1) q = some (w.1, (decide (b.getD q 0 = 45), z.2) :: w.2) := by
              unfold rdM
              rw [if_pos c, hx]
              dsimp only
              rw [hy]
            rw [e]
            refine ⟨fun hx => (by cases hx), fun y hy2 => ?_⟩
            injection hy2 with hy2
            subst hy2
            rcases i2.2 w hy with ⟨hdg, hbd⟩ | ⟨υ, k2, su3, np3, nst3, npr3, nop3, T3, PT3, w1, w2, w3, w4, w5, w6, w7, w8, w9, w10, w11⟩
            · exact Or.inl ⟨hdg, hbd.bk rr (by omega) aR.1.1⟩
            · refine Or.inr ⟨υ, 1 + k + k2, su3, np3, nst3, npr3, nop3, T3, PT3, rr.tr w1, by show 1 + k + k2 + 8 * q ≤ 8 * w.1; omega, w3, aR.tr w4, ?_, w6, w7, exA.tr w8 (Or.inl rfl) (Or.inl rfl) (Or.inl rfl), gdT.tr hW exA t6 hW1 w8 w9 (Or.inr (by omega)) (Or.inr (by omega)) (Or.inl hrn), ⟨w10.1, w10.2.1, w10.2.2.1, by show nxC nop3 su3 + q ≤ nxC nop su + w.1; omega⟩, fun n x t => ?_⟩
              · rw [w5, t4.2.2, b5, a5]
              · rw [w11]
                unfold rsV
                rw [if_neg (show ¬ (decide (b.getD q 0 = 45), z.2) :: w.2 = [] from fun q => by cases q)]
                by_cases cw : w.2 = []
                · rw [if_pos cw, cw]
                  rfl
                · rw [if_neg cw]
                  rfl
    · have e : rdM b O (m + 1) q = some (q, []) := by
        unfold rdM
        rw [if_neg c]
      rw [e]
      refine ⟨fun hx => (by cases hx), fun y hy => ?_⟩
      injection hy with hy
      subst hy
      exact Or.inr ⟨σ, 0, su, np, nst, npr, nop, T, PT, Rn.rf, by show 0 + 8 * q ≤ 8 * q; omega, h, agR.rf, rfl, hsu, c, Ex.rf, gdT.rf, ⟨hm.1, hm.2.1, hm.2.2.1, Nat.le_refl _⟩, hsk⟩
theorem add0 {o : Option Int} : addO false (some 0) o = o := by
  cases o with
  | none => rfl
  | some v =>
    show some (if false = true then 0 - v else 0 + v) = some v
    rw [if_neg (by decide), Int.zero_add]
theorem rU (hb : b.length ≤ 120) (hO : rgO F b ns d O) (hg : gO ns b O) : rgU F b ns d (rdU ns b O) := by
  intro σ p np nst npr nop T PT r h hm hr hrn hs0 hfr
  have hp := h.2.2.2.2.1
  have hd4 := h.2.2.2.2.2.1
  have hW := h.2.2.2.1
  have hbn := h.2.2.2.2.2.2
  have x := hO σ p np nst npr nop T PT r h hm hr hrn hfr
  unfold rdU
  cases hx : O p with
  | none => exact ⟨fun _ => x.1 hx, fun y hy => by cases hy⟩
  | some z =>
    obtain ⟨z1, z2, z3⟩ := hg _ _ hp hx
    dsimp only
    rcases x.2 z hx with ⟨hdg, hbd⟩ | ⟨τ, k, np1, nst1, npr1, nop1, T1, PT1, t1, t2, t3, t4, t5, t6, t7, t8⟩
    · have nsg : ¬ (b.getD z.1 0 = 43 ∨ b.getD z.1 0 = 45) := by
        intro q
        rcases q with q | q <;> rw [q] at hdg <;> exact absurd hdg (by decide)
      rw [if_neg nsg]
      refine ⟨fun hx => (by cases hx), fun y hy => ?_⟩
      injection hy with hy
      subst hy
      exact Or.inl ⟨hdg, hbd⟩
    · have hW1 := t3.2.2.2.1
      have hle := t5.1
      have hbn1 := t3.2.2.2.2.2.2
      have s0 : τ.1 1357 d = Int32.ofNat 0 := by
        rw [t4.2.1]
        exact hs0
      have i2 := rM hb hO hg (r := r) 130 z.1 τ np1 nst1 npr1 nop1 0 T1 PT1 z.2 (fun n x t => skM ns b PT T r n x t nop) t3 ⟨t7.1.1, t7.1.2.1, t7.1.2.2.1, t7.1.2.2.2⟩ (by omega) (by rw [t4.1.2.2]; exact hr) (by omega) ⟨s0, Or.inl rfl⟩ (by rw [t4.1.2.1]; exact hfr) t8
      by_cases c : b.getD z.1 0 = 43 ∨ b.getD z.1 0 = 45
      · rw [if_pos c]
        cases hy : rdM b O 130 z.1 with
        | none => exact ⟨fun _ => (i2.1 hy).bk t1 (by omega) t4.1.1.1, fun y hy => by cases hy⟩
        | some w =>
          refine ⟨fun hx => (by cases hx), fun y hy2 => ?_⟩
          injection hy2 with hy2
          subst hy2
          have wn : ¬ w.2 = [] := by
            unfold rdM at hy
            rw [if_pos c] at hy
            intro q
            split at hy
            · cases hy
            · split at hy
              · cases hy
              · injection hy with hy
                rw [← hy] at q
                cases q
          rcases i2.2 w hy with ⟨hdg, hbd⟩ | ⟨υ, k2, su3, np3, nst3, npr3, nop3, T3, PT3, w1, w2, w3, w4, w5, w6, w7, w8, w9, w10, w11⟩
          · exact Or.inl ⟨hdg, hbd.bk t1 (by omega) t4.1.1.1⟩
          · refine Or.inr ⟨υ, k + k2, su3, np3, nst3, npr3, nop3, T3, PT3, t1.tr w1, by show k + k2 + 8 * p + 2 ≤ 8 * w.1; omega, w3, t4.1.tr w4, by rw [w5, t4.2.2], w6, w7, t5.tr w8 (Or.inl rfl) (Or.inl rfl) (Or.inl rfl), gdT.tr hW t5 t6 hW1 w8 w9 (Or.inr (by omega)) (Or.inr (by omega)) (Or.inl hrn), ⟨w10.1, w10.2.1, w10.2.2.1, ?_⟩, fun n x t => ?_⟩
            · have q1 := w10.2.2.2
              have q2 : nxC nop1 0 = nop1 := rfl
              show nxC nop3 su3 + p ≤ nop + w.1
              omega
            · rw [w11]
              unfold rsV smM
              rw [if_neg wn]
              show vN (sumO ns n x t w.2 (nmV ns (z.2 n x t))) :: _ = vN (sumO ns n x t w.2 (addO false (some 0) (nmV ns (z.2 n x t)))) :: _
              rw [add0]
      · rw [if_neg c]
        refine ⟨fun hx => (by cases hx), fun y hy => ?_⟩
        injection hy with hy
        subst hy
        exact Or.inr ⟨τ, k, 0, np1, nst1, npr1, nop1, T1, PT1, t1, t2, t3, t4.1, t4.2.2, ⟨s0, Or.inl rfl⟩, c, t5, t6, ⟨t7.1.1, t7.1.2.1, t7.1.2.2.1, t7.2⟩, t8⟩
/-- neither bracket nor parenthesis -/
theorem f225_X {σ : St} {p np nst npr nop r co : Nat} {T : Tb} (hb : b.length ≤ 120) (h : mQ b σ p d np nst npr nop T) (hn : nop ≤ 120) (hr : σ.1 1356 d = Int32.ofNat r) (hrn : r < npr) (hco : σ.1 1358 d = 0) (h33 : b.getD p 0 = 33) (h61 : ¬ b.getD (p + 1) 0 = 61) : ∃ τ, f225_37 F σ = oI 8 τ ∧ agR0 σ τ := by
  have hp := h.2.2.2.2.1
  have hd := h.2.2.2.2.2.1
  have i2 : inB (Int32.ofNat d) 6 := oN_rg (by omega) (by decide)
  have n2 := oN_n (show d < 2147483648 by omega)
  refine ⟨σ, ?_, agR0.rf⟩
  unfold f225_37
  rw [ltE, h.2.1.1, h.ch hb (by omega), cIo, h33, if_neg (by decide), if_neg (by decide), if_pos rfl, ltE, h.2.1.1, oN_p1, h.ch hb (by omega), cIo, if_neg h61]
  unfold f225_118 f225_119 f225_217 f225_244 f225_265
  simp only [ltE, h.2.1.2.1, if_pos i2, n2, hco]
  rw [if_pos trivial, if_neg (by decide), if_neg (by decide), if_neg (by decide), if_pos trivial, if_pos trivial]
  by_cases c : σ.1 1353 d = 1
  · rw [if_pos c, if_neg (by decide)]
  · rw [if_neg c, if_neg (by decide)]
theorem rX (hb : b.length ≤ 120) (hO : rgO F b ns d O) (hg : gO ns b O) : rgX F b ns d (rdX ns b O) := by
  intro σ p np nst npr nop T PT r h hm hr hrn hs0 hc0 hfr
  have hU := rU hb hO hg
  have hgU := rdU_ok hb hg
  have hp := h.2.2.2.2.1
  have hd4 := h.2.2.2.2.2.1
  have hW := h.2.2.2.1
  have hbn := h.2.2.2.2.2.2
  have x := hU σ p np nst npr nop T PT r h hm hr hrn hs0 hfr
  unfold rdX
  cases hx : rdU ns b O p with
  | none => exact ⟨fun _ => x.1 hx, fun y hy => by cases hy⟩
  | some z =>
    obtain ⟨z1, z2, z3⟩ := hgU _ _ hp hx
    dsimp only
    rcases x.2 z hx with ⟨hdg, hbd⟩ | ⟨τ, k, su, np1, nst1, npr1, nop1, T1, PT1, t1, t2, t3, t4, t5, t6, t7, t8, t9, t10, t11⟩
    · have e : cmO b z.1 = some (none, z.1) := by
        unfold cmO
        have f : ∀ c : Int32, isDig c = false → ¬ b.getD z.1 0 = c := fun c hc q => by rw [q, hc] at hdg; cases hdg
        rw [if_neg (f 61 (by decide)), if_neg (f 60 (by decide)), if_neg (f 62 (by decide)), if_neg (f 33 (by decide))]
      rw [e]
      refine ⟨fun hx => (by cases hx), fun y hy => ?_⟩
      injection hy with hy
      subst hy
      exact Or.inl ⟨hdg, hbd⟩
    · have hW1 := t3.2.2.2.1
      have hle := t8.1
      have hbn1 := t3.2.2.2.2.2.2
      have l1 := nxC_le (nop := nop1) (co := su)
      have c0 : τ.1 1358 d = 0 := by
        rw [t5]
        exact hc0
      have hr1 : τ.1 1356 d = Int32.ofNat r := by
        rw [t4.2.2]
        exact hr
      have mm := hm.2.2.2
      obtain ⟨σA, a1, a2, a3, a4, a5⟩ := f225_A (F := F) t3 (by omega) hr1 (by omega) t6.1 t6.2
      have hWA := a2.2.2.2.1
      cases hc : cmO b z.1 with
      | none =>
        refine ⟨fun _ => ?_, fun y hy => by cases hy⟩
        have c33 : b.getD z.1 0 = 33 ∧ ¬ b.getD (z.1 + 1) 0 = 61 := by
          unfold cmO at hc
          split at hc
          · cases hc
          · split at hc
            · cases hc
            · split at hc
              · cases hc
              · split at hc
                · next q =>
                  split at hc
                  · cases hc
                  · next q2 => exact ⟨q, q2⟩
                · cases hc
        obtain ⟨υ, u1, u2⟩ := f225_X (F := F) (co := 0) hb a2 (by omega) (by rw [a3.2.2]; exact hr1) (by omega) (by rw [a5]; exact c0) c33.1 c33.2
        exact (rBad.at (Rn.m7 (by rw [a1, u1]; rfl)) z2 (a3.1.1.tr u2)).bk t1 (by omega) t4.1.1
      | some w =>
        obtain ⟨w1, w2, w3⟩ := cmO_ok z2 hc
        dsimp only
        cases ho : w.1 with
        | none =>
          refine ⟨fun hx => (by cases hx), fun y hy => ?_⟩
          injection hy with hy
          subst hy
          refine Or.inr ⟨τ, k, su, 0, np1, nst1, npr1, nop1, T1, PT1, t1, t2, t3, t4, t6, ⟨c0, Or.inl rfl⟩, t7, Or.inr (fun o q hq => ?_), t8, t9, ⟨t10.1, t10.2.1, t10.2.2.1, t10.2.2.2⟩, t11⟩
          rw [hc] at hq
          injection hq with hq
          rw [hq] at ho
          cases ho
        | some o =>
          obtain ⟨o1, o2⟩ := w3 o ho
          have hc2 : cmO b z.1 = some (some o, w.2) := by
            rw [hc, ← ho]
          obtain ⟨σB, b1, b2, b3, b4, b5⟩ := f225_C (F := F) hb a2 (by rw [a5]; exact c0) hc2
          have r1 : Rn F 7 τ 6 σB 1 := Rn.m7 (by rw [a1, b1]; rfl)
          have aB : agR d τ σB := a3.tr b3
          have aS : agR d σ σB := t4.tr aB
          have y2 := hU σB w.2 np1 nst1 npr1 (nxC nop1 su) (adC T1 nop1 r su) PT1 r b2 ⟨by omega, by omega, by omega, by omega⟩ (by rw [aS.2.2]; exact hr) (by omega) (by rw [b4]; exact a4) (by rw [aS.2.1]; exact hfr)
          have rr : Rn F 6 σ 6 σB (k + 1) := t1.tr r1
          dsimp only
          cases hv : rdU ns b O w.2 with
          | none => exact ⟨fun _ => (y2.1 hv).bk rr (by omega) aS.1.1, fun y hy => by cases hy⟩
          | some v =>
            obtain ⟨v1, v2, v3⟩ := hgU _ _ w2 hv
            refine ⟨fun hx => (by cases hx), fun y hy => ?_⟩
            injection hy with hy
            subst hy
            rcases y2.2 v hv with ⟨hdg, hbd⟩ | ⟨υ, k2, su2, np2, nst2, npr2, nop2, T2, PT2, u1, u2, u3, u4, u5, u6, u7, u8, u9, u10, u11⟩
            · exact Or.inl ⟨hdg, hbd.bk rr (by omega) aS.1.1⟩
            · have hW2 := u3.2.2.2.1
              have hle2 := u8.1
              have hbn2 := u3.2.2.2.2.2.2
              have l2 := nxC_le (nop := nop2) (co := su2)
              have exA : Ex T (adC T1 nop1 r su) np nst npr nop np1 nst1 npr1 (nxC nop1 su) 9999 9999 r := t8.tr Ex.aC (Or.inl rfl) (Or.inl rfl) (Or.inl rfl)
              have eA : Ex T1 (adC T1 nop1 r su) np1 nst1 npr1 nop1 np1 nst1 npr1 (nxC nop1 su) 9999 9999 r := Ex.aC
              have gA : gdT ns b PT PT1 (adC T1 nop1 r su) np npr np1 nst1 npr1 (nxC nop1 su) := gdT.tr hW t8 t9 hW1 eA (gdT.nil eA) (Or.inr (by omega)) (Or.inr (by omega)) (Or.inl hrn)
              have nx : nxC (nxC nop2 su2) (9 + o) = nxC nop2 su2 + 1 := by
                show (if 9 + o = 0 then _ else _) = _
                rw [if_neg (by omega)]
              have ad : adC (adC T2 nop2 r su2) (nxC nop2 su2) r (9 + o) = adO (adC T2 nop2 r su2) (nxC nop2 su2) (r, 9 + o, 0, 0) := by
                show (if 9 + o = 0 then _ else _) = _
                rw [if_neg (by omega)]
              have hWB : TW b (adC T2 nop2 r su2) np2 nst2 npr2 (nxC nop2 su2) := hW2.aC (by omega) (by omega)
              refine Or.inr ⟨υ, k + 1 + k2, su2, 9 + o, np2, nst2, npr2, nop2, T2, PT2, rr.tr u1, by show k + 1 + k2 + 8 * p + 2 ≤ 8 * v.1; omega, u3, aS.tr u4, u6, ⟨by rw [u5]; exact b5, Or.inr ⟨by omega, by omega⟩⟩, u7, Or.inl (by omega), exA.tr u8 (Or.inl rfl) (Or.inl rfl) (Or.inl rfl), gdT.tr hW exA gA hWA u8 u9 (Or.inr (by omega)) (Or.inr (by omega)) (Or.inl hrn), ⟨u10.1, u10.2.1, u10.2.2.1, by rw [nx]; show nxC nop2 su2 + 1 + p ≤ nop + v.1; omega⟩, fun n x t => ?_⟩
              rw [nx, ad]
              have q1 := skM_adO (ns := ns) (PT := PT2) (n := n) (x := x) (t := t) (w := (r, 9 + o, 0, 0)) hWB
              have q1 : skM ns b PT2 (adO (adC T2 nop2 r su2) (nxC nop2 su2) (r, 9 + o, 0, 0)) r n x t (nxC nop2 su2 + 1) = opF ns b PT2 (r, 9 + o, 0, 0) n x t (skM ns b PT2 (adC T2 nop2 r su2) r n x t (nxC nop2 su2)) := q1
              rw [q1, u11, t11]
              unfold opF opB
              dsimp only
              rw [if_neg (by omega), if_neg (by omega), if_neg (by omega), if_neg (by omega), if_neg (by omega), if_neg (by omega), if_neg (by omega), if_neg (by omega), if_neg (by omega), show 9 + o - 9 = o by omega]
              rfl
end RSU
