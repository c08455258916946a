/-! THE REFERENCE READS operands -/
def rgO (F : Nat) (b : List Int32) (ns : List Nd) (d : Nat) (O : Nat → Option (Nat × Ev)) : Prop := ∀ σ p np nst npr nop T PT r, mQ b σ p d np nst npr nop T → mCn p np nst npr nop → σ.1 1356 d = Int32.ofNat r → r < npr → (σ.1 1353 d = 1 ∨ σ.1 1353 d = 3) → (O p = none → rBad F b 6 σ p) ∧ ∀ y, O p = some y → (isDig (b.getD y.1 0) = true ∧ rBad F b 6 σ p) ∨ ∃ (τ : St) (c np' nst' npr' nop' : Nat) (T' : Tb) (PT' : Nat → Sm), Rn F 6 σ 7 τ c ∧ c + 8 * p + 2 ≤ 8 * y.1 ∧ mQ b τ y.1 d np' nst' npr' nop' T' ∧ agK d σ τ ∧ Ex T T' np nst npr nop np' nst' npr' nop' 9999 9999 r ∧ gdT ns b PT PT' T' np npr np' nst' npr' nop' ∧ (mCn y.1 np' nst' npr' nop' ∧ nop' + p ≤ nop + y.1) ∧ ∀ n x t, skM ns b PT' T' r n x t nop' = y.2 n x t :: skM ns b PT T r n x t nop
section ROP
variable {F d : Nat} {b : List Int32} {ns : List Nd}
theorem cls_n {τ : St} {p np nst npr nop r su co : Nat} {T : Tb} (hb : b.length ≤ 120) (h : mQ b τ p (d + 1) np nst npr nop T) (hn : nxC (nxC nop su) co ≤ p) (hr : τ.1 1356 (d + 1) = Int32.ofNat r) (hr0 : τ.1 1356 d = Int32.ofNat r) (hrn : r < npr) (hsu : τ.1 1357 (d + 1) = Int32.ofNat su ∧ (su = 0 ∨ su = 7 ∨ su = 8)) (hco : τ.1 1358 (d + 1) = Int32.ofNat co ∧ (co = 0 ∨ (9 ≤ co ∧ co ≤ 12))) (hs : ¬ (b.getD p 0 = 43 ∨ b.getD p 0 = 45)) (hc : ¬ co = 0 ∨ ∀ o q, ¬ cmO b p = some (some o, q)) (hf : τ.1 1353 (d + 1) = 3) : (b.getD p 0 = 41 → ∃ υ, Rn F 7 τ 7 υ 1 ∧ mQ b υ (p + 1) d np nst npr (nxC (nxC nop su) co + 1) (adO (adC (adC T nop r su) (nxC nop su) r co) (nxC (nxC nop su) co) (r, 6, 0, 0)) ∧ agF (d + 1) τ υ) ∧ (¬ b.getD p 0 = 41 → rBad F b 7 τ p) := by
  have hp := h.2.2.2.2.1
  have l1 := nxC_le (nop := nop) (co := su)
  have l2 := nxC_le (nop := nxC nop su) (co := co)
  obtain ⟨σA, a1, a2, a3, a4, a5⟩ := f225_A (F := F) h (by omega) hr hrn hsu.1 hsu.2
  have z := (f225_E (F := F) (r := r) (co := co) hb a2 (by omega) (by rw [a3.2.2]; exact hr) hrn (by rw [a5]; exact hco.1) hco.2 hs hc).2 r (by rw [a3.2.1]; exact hf) (by rw [a3.1.2 d (by omega) 1356 (by decide) (by decide)]; exact hr0) hrn (by omega)
  refine ⟨fun c => ?_, fun c => ?_⟩
  · obtain ⟨υ, t1, t2, t3⟩ := z.1 c
    exact ⟨υ, Rn.m7 (by rw [a1, t1]; rfl), t2, a3.1.tr (t3.wk (e := d + 1) (by have := h.2.2.2.2.2.1; omega)) (Nat.le_refl _)⟩
  · obtain ⟨υ, t1, t2⟩ := z.2 c
    exact rBad.at (Rn.m7 (by rw [a1, t1]; rfl)) hp (a3.1.1.tr t2)
/-- one op more -/
theorem sk_op {PT : Nat → Sm} {T : Tb} {np nst npr nop r kd ar ln n x t : Nat} {v : Vl} (hW : TW b T np nst npr nop) (h : opF ns b PT (r, kd, ar, ln) n x t (skM ns b PT T r n x t nop) = v :: skM ns b PT T r n x t nop) : skM ns b PT (adO T nop (r, kd, ar, ln)) r n x t (nop + 1) = v :: skM ns b PT T r n x t nop := by
  have := skM_adO (ns := ns) (PT := PT) (n := n) (x := x) (t := t) (w := (r, kd, ar, ln)) hW
  rw [this]
  exact h
theorem rO {P P' : Nat → Option (Nat × Sm)} {E' : Nat → Option (Nat × Ev)} (hF : 500 ≤ F) (hb : b.length ≤ 120) (ho : okB b) (hP : rgP F b ns d P) (hgP : gP ns b P) (hP' : d < 4 → rgP F b ns (d + 1) P') (hP4 : ¬ d < 4 → ∀ p, P' p = none) (hgP' : gP ns b P') (hE' : d < 4 → rgX F b ns (d + 1) E') (hE4 : ¬ d < 4 → ∀ p, E' p = none) (hgE' : gE ns b E') : rgO F b ns d (rdO ns b P P' E') := by
  intro σ p np nst npr nop T PT r h hm hr hrn hfr
  have hp := h.2.2.2.2.1
  have hW := h.2.2.2.1
  have hd4 := h.2.2.2.2.2.1
  have hbn := h.2.2.2.2.2.2
  have n1 := nmE_ge (b := b) (p := p)
  have n2 := nmE_le hp
  obtain ⟨m1, m2, m3, m4⟩ := hm
  obtain ⟨k1, k2⟩ := f222_d (F := F) hb h
  by_cases c1 : isDig (b.getD p 0) = true
  · have e : rdO ns b P P' E' p = rdN b p := by
      unfold rdO
      rw [if_pos c1]
    have hl := dig_lt c1
    have z := f223_e (F := F) (r := r) hF hb h (by omega) c1 hr hrn
    have dpos : 0 < dgC b p 6 := dgC_pos (m := 5) c1
    rw [e]
    refine ⟨fun q => (by cases q), fun y hy => ?_⟩
    unfold rdN at hy
    injection hy with hy
    subst hy
    by_cases c7 : dgC b p 7 ≤ 6
    · obtain ⟨τ, t1, t2, t3⟩ := z.2 c7
      refine Or.inr ⟨τ, 1, np, nst, npr, nop + 1, _, PT, Rn.m6 (by rw [k1 c1, t1, cIo]; rfl), by show 1 + 8 * p + 2 ≤ 8 * (p + dgC b p 6); omega, t2, (t3.wk (e := d + 1) (by omega)).c, Ex.aO (w := (r, 0, dgN b p (dgC b p 6), 0)), gdT.nil (Ex.aO (w := (r, 0, dgN b p (dgC b p 6), 0)) (k0 := 0) (s0 := 0)), ⟨⟨by show np ≤ p + dgC b p 6; omega, by show nst ≤ p + dgC b p 6; omega, by show npr ≤ p + dgC b p 6; omega, by show nop + 1 ≤ p + dgC b p 6; omega⟩, by show nop + 1 + p ≤ nop + (p + dgC b p 6); omega⟩, fun n x t => sk_op hW rfl⟩
    · have e7 : dgC b p 7 = 7 := by
        have := (dgC_ok (b := b) 7 p).1
        omega
      obtain ⟨τ, t1, t2⟩ := z.1 e7
      have d6 := dgC_76.2 e7
      refine Or.inl ⟨?_, rBad.at (Rn.m6 (by rw [k1 c1, t1, cIo]; rfl)) hp t2⟩
      show isDig (b.getD (p + dgC b p 6) 0) = true
      rw [d6.1]
      exact d6.2
  · have kk := k2 c1
    by_cases c2 : b.getD p 0 = 39
    · have e : rdO ns b P P' E' p = rdT1 b p := by
        unfold rdO
        rw [if_neg c1, if_pos c2]
      have hl := ch_lt c2 (by decide)
      have s1 := skp_ge (f := isNq) (b := b) (p := p + 1)
      have z := f224_e (F := F) (r := r) hF hb ho h (by omega) c2 hr hrn
      have e26 : f222 F σ = cI (f224 F σ) fun c5 σ4 => oI c5 σ4 := by
        rw [kk]
        unfold f222_26
        rw [if_pos c2]
      rw [e]
      unfold rdT1
      by_cases c3 : skp isNq b (p + 1) < b.length
      · obtain ⟨τ, t1, t2, t3⟩ := z.2 c3
        rw [if_pos c3]
        refine ⟨fun q => (by cases q), fun y hy => ?_⟩
        injection hy with hy
        subst hy
        refine Or.inr ⟨τ, 1, np, nst, npr, nop + 1, _, PT, Rn.m6 (by rw [e26, t1, cIo]; rfl), by show 1 + 8 * p + 2 ≤ 8 * (skp isNq b (p + 1) + 1); omega, t2, (t3.wk (e := d + 1) (by omega)).c, Ex.aO (w := (r, 1, p + 1, skp isNq b (p + 1) - (p + 1))), gdT.nil (Ex.aO (w := (r, 1, p + 1, skp isNq b (p + 1) - (p + 1))) (k0 := 0) (s0 := 0)), ⟨⟨by show np ≤ skp isNq b (p + 1) + 1; omega, by show nst ≤ skp isNq b (p + 1) + 1; omega, by show npr ≤ skp isNq b (p + 1) + 1; omega, by show nop + 1 ≤ skp isNq b (p + 1) + 1; omega⟩, by show nop + 1 + p ≤ nop + (skp isNq b (p + 1) + 1); omega⟩, fun n x t => sk_op hW rfl⟩
      · obtain ⟨τ, t1, t2⟩ := z.1 c3
        rw [if_neg c3]
        exact ⟨fun _ => rBad.at (Rn.m6 (by rw [e26, t1, cIo]; rfl)) hp t2, fun y hy => by cases hy⟩
    · -- a path
      have pth : (nmE b p = p ∨ ¬ b.getD (nmE b p) 0 = 40 ∨ fnW (nmW b p) = 0) → rdO ns b P P' E' p = asE (P p) → (rdO ns b P P' E' p = none → rBad F b 6 σ p) ∧ ∀ y, rdO ns b P P' E' p = some y → (isDig (b.getD y.1 0) = true ∧ rBad F b 6 σ p) ∨ ∃ (τ : St) (c np' nst' npr' nop' : Nat) (T' : Tb) (PT' : Nat → Sm), Rn F 6 σ 7 τ c ∧ c + 8 * p + 2 ≤ 8 * y.1 ∧ mQ b τ y.1 d np' nst' npr' nop' T' ∧ agK d σ τ ∧ Ex T T' np nst npr nop np' nst' npr' nop' 9999 9999 r ∧ gdT ns b PT PT' T' np npr np' nst' npr' nop' ∧ (mCn y.1 np' nst' npr' nop' ∧ nop' + p ≤ nop + y.1) ∧ ∀ n x t, skM ns b PT' T' r n x t nop' = y.2 n x t :: skM ns b PT T r n x t nop := by
        intro hc e
        have r6 : Rn F 6 σ 1 σ 1 := Rn.m6 (by rw [kk]; exact f222_26_p hF hb ho h c2 hc)
        have x := hP σ p np nst npr nop T PT h ⟨m1, m2, m3, m4⟩
        rw [e]
        cases hq : P p with
        | none => exact ⟨fun _ => (x.1 hq).b6 r6 agR0.rf, fun y hy => by cases hy⟩
        | some z =>
          obtain ⟨τ, c, np', nst', npr', nop', T', PT', t1, t2, t3, t4, t5, t6, t7, t8, t9, t10⟩ := x.2 z hq
          have hW' := t3.2.2.2.1
          have hle := t6.1
          have hbn' := t3.2.2.2.2.2.2
          have hz := t3.2.2.2.2.1
          have hw : opW b T' np' npr' (r, 5, np, 0) := by
            refine ⟨by show r < npr'; omega, by show (5 : Nat) ≤ 12; omega, fun q => (by cases q), fun q => (by cases q), fun _ => ⟨t9, ?_⟩⟩
            show (T'.2.1 (T'.2.2.1 r)).1 < np
            have q1 := hW.2.1 r hrn
            rw [t6.2.1.2.2.1 r hrn, t6.2.1.2.1 _ q1]
            exact (hW.1 _ q1).1
          obtain ⟨υ, u1, u2, u3⟩ := f220_p (F := F) t3 (by omega) (by rw [t4.1.2.1]; exact hfr) t5 (by rw [t4.1.2.2]; exact hr) hw
          refine ⟨fun q => (by cases q), fun y hy => ?_⟩
          injection hy with hy
          subst hy
          have eO : Ex T' (adO T' nop' (r, 5, np, 0)) np' nst' npr' nop' np' nst' npr' (nop' + 1) 9999 9999 r := Ex.aO (w := (r, 5, np, 0))
          have sk0 : ∀ n x t, skM ns b PT' T' r n x t nop' = skM ns b PT T r n x t nop := fun n x t => skM_fr t6 hW t7.1 hrn (by omega)
          refine Or.inr ⟨υ, 1 + c + 1, np', nst', npr', nop' + 1, _, PT', (r6.tr t1).tr (Rn.m5 u1), by show 1 + c + 1 + 8 * p + 2 ≤ 8 * z.1; omega, u2, t4.tr (u3.wk (e := d + 1) (by omega)).c, (t6.wk (Or.inl rfl) (Or.inl rfl) (Or.inr (by omega))).tr eO (Or.inl rfl) (Or.inl rfl) (Or.inl rfl), gdT.tr hW t6 t7 hW' eO (gdT.nil eO) (Or.inr (by omega)) (Or.inr (by omega)) (Or.inl hrn), ⟨⟨t10.1.1, t10.1.2.1, t10.1.2.2.1, by show nop' + 1 ≤ z.1; omega⟩, by show nop' + 1 + p ≤ nop + z.1; omega⟩, fun n x t => ?_⟩
          have q := sk_op (ns := ns) (PT := PT') (r := r) (kd := 5) (ar := np) (ln := 0) (n := n) (x := x) (t := t) (v := ptM (PT' np) n x t) hW' rfl
          rw [q, sk0, t8]
      by_cases c3 : nmE b p = p
      · exact pth (Or.inl c3) (by unfold rdO; rw [if_neg c1, if_neg c2, if_neg (fun q => q.1 c3)])
      · by_cases c4 : b.getD (nmE b p) 0 = 40
        · have hl := ch_lt c4 (by decide)
          by_cases c5 : fnW (nmW b p) = 0
          · exact pth (Or.inr (Or.inr c5)) (by unfold rdO; rw [if_neg c1, if_neg c2, if_pos ⟨c3, c4⟩, c5, if_neg (by decide), if_neg (by decide), if_neg (by decide), if_neg (by decide)])
          · have hw : fnW (nmW b p) = 1 ∨ fnW (nmW b p) = 2 ∨ fnW (nmW b p) = 3 ∨ fnW (nmW b p) = 7 := by
              unfold fnW at c5 ⊢
              split
              · exact Or.inl rfl
              · split
                · exact Or.inr (Or.inl rfl)
                · split
                  · exact Or.inr (Or.inr (Or.inl rfl))
                  · split
                    · exact Or.inr (Or.inr (Or.inr rfl))
                    · next q1 q2 q3 q4 =>
                      rw [if_neg q1, if_neg q2, if_neg q3, if_neg q4] at c5
                      exact absurd rfl c5
            obtain ⟨y1, y2, y3⟩ := f222_26_f (F := F) (r := r) hF hb ho h (by omega) hr hrn c2 c3 c4
            have eO : rdO ns b P P' E' p = (if fnW (nmW b p) = 1 then (if b.getD (nmE b p + 1) 0 = 41 then some (nmE b p + 2, fun (_ x _ : Nat) => vN (some (x : Int))) else none)
                else if fnW (nmW b p) = 2 then (if b.getD (nmE b p + 1) 0 = 41 then some (nmE b p + 2, fun (_ _ x : Nat) => vN (some (x : Int))) else none)
                else if fnW (nmW b p) = 3 then (match P' (nmE b p + 1) with
                  | none => none
                  | some x => if b.getD x.1 0 = 41 then some (x.1 + 1, ctM ns x.2) else none)
                else if fnW (nmW b p) = 7 then (match E' (nmE b p + 1) with
                  | none => none
                  | some x => if b.getD x.1 0 = 41 then some (x.1 + 1, ntM x.2) else none)
                else asE (P p)) := by
              unfold rdO
              rw [if_neg c1, if_neg c2, if_pos ⟨c3, c4⟩]
              rfl
            rcases hw with hw | hw | hw | hw
            · rw [hw, if_pos rfl] at eO
              obtain ⟨z1, z2⟩ := y1 (Or.inl hw)
              rw [eO]
              by_cases c6 : b.getD (nmE b p + 1) 0 = 41
              · obtain ⟨τ, t1, t2, t3⟩ := z2 c6
                rw [hw] at t2
                rw [if_pos c6]
                refine ⟨fun q => (by cases q), fun y hy => ?_⟩
                injection hy with hy
                subst hy
                exact Or.inr ⟨τ, 1, np, nst, npr, nop + 1, _, PT, Rn.m6 (by rw [kk, t1]; rfl), by show 1 + 8 * p + 2 ≤ 8 * (nmE b p + 2); omega, t2, (t3.wk (e := d + 1) (by omega)).c, Ex.aO (w := (r, 2, 0, 0)), gdT.nil (Ex.aO (w := (r, 2, 0, 0)) (k0 := 0) (s0 := 0)), ⟨⟨by show np ≤ nmE b p + 2; omega, by show nst ≤ nmE b p + 2; omega, by show npr ≤ nmE b p + 2; omega, by show nop + 1 ≤ nmE b p + 2; omega⟩, by show nop + 1 + p ≤ nop + (nmE b p + 2); omega⟩, fun n x t => sk_op hW rfl⟩
              · obtain ⟨τ, t1, t2⟩ := z1 c6
                rw [if_neg c6]
                exact ⟨fun _ => rBad.at (Rn.m6 (by rw [kk, t1]; rfl)) hp t2, fun y hy => by cases hy⟩
            · rw [hw, if_neg (by decide), if_pos rfl] at eO
              obtain ⟨z1, z2⟩ := y1 (Or.inr hw)
              rw [eO]
              by_cases c6 : b.getD (nmE b p + 1) 0 = 41
              · obtain ⟨τ, t1, t2, t3⟩ := z2 c6
                rw [hw] at t2
                rw [if_pos c6]
                refine ⟨fun q => (by cases q), fun y hy => ?_⟩
                injection hy with hy
                subst hy
                exact Or.inr ⟨τ, 1, np, nst, npr, nop + 1, _, PT, Rn.m6 (by rw [kk, t1]; rfl), by show 1 + 8 * p + 2 ≤ 8 * (nmE b p + 2); omega, t2, (t3.wk (e := d + 1) (by omega)).c, Ex.aO (w := (r, 3, 0, 0)), gdT.nil (Ex.aO (w := (r, 3, 0, 0)) (k0 := 0) (s0 := 0)), ⟨⟨by show np ≤ nmE b p + 2; omega, by show nst ≤ nmE b p + 2; omega, by show npr ≤ nmE b p + 2; omega, by show nop + 1 ≤ nmE b p + 2; omega⟩, by show nop + 1 + p ≤ nop + (nmE b p + 2); omega⟩, fun n x t => sk_op hW rfl⟩
              · obtain ⟨τ, t1, t2⟩ := z1 c6
                rw [if_neg c6]
                exact ⟨fun _ => rBad.at (Rn.m6 (by rw [kk, t1]; rfl)) hp t2, fun y hy => by cases hy⟩
            · rw [hw, if_neg (by decide), if_neg (by decide), if_pos rfl] at eO
              obtain ⟨z1, z2⟩ := y2 hw
              rw [eO]
              by_cases c6 : d < 4
              · obtain ⟨τ1, s1, s2, s3, s4, s5, s6, s7⟩ := z2 c6
                have r1 : Rn F 6 σ 1 τ1 1 := Rn.m6 (by rw [kk, s1]; rfl)
                have x := hP' c6 τ1 (nmE b p + 1) np nst npr nop T PT s2 ⟨by omega, by omega, by omega, by omega⟩
                cases hq : P' (nmE b p + 1) with
                | none => exact ⟨fun _ => (x.1 hq).bk r1 (by omega) s3.1, fun y hy => by cases hy⟩
                | some z =>
                  obtain ⟨τ, c, np', nst', npr', nop', T', PT', t1, t2, t3, t4, t5, t6, t7, t8, t9, t10⟩ := x.2 z hq
                  obtain ⟨g1, g2, g3⟩ := hgP' _ _ (by omega) hq
                  have hW' := t3.2.2.2.1
                  have hle := t6.1
                  have hbn' := t3.2.2.2.2.2.2
                  have hw' : opW b T' np' npr' (r, 4, np, 0) := by
                    refine ⟨by show r < npr'; omega, by show (4 : Nat) ≤ 12; omega, fun q => (by cases q), fun q => (by cases q), fun _ => ⟨t9, ?_⟩⟩
                    show (T'.2.1 (T'.2.2.1 r)).1 < np
                    have q1 := hW.2.1 r hrn
                    rw [t6.2.1.2.2.1 r hrn, t6.2.1.2.1 _ q1]
                    exact (hW.1 _ q1).1
                  have a1 : agF (d + 1) σ τ := s3.tr t4.1.1 (Nat.le_refl _)
                  obtain ⟨v1, v2⟩ := f220_c (F := F) (r := r) hb t3 (by omega) (by rw [t4.1.2.1]; exact s4) t5 (by rw [a1.2 d (by omega) 1356 (by decide) (by decide)]; exact hr) hw'
                  dsimp only
                  by_cases c7 : b.getD z.1 0 = 41
                  · have hl7 := ch_lt c7 (by decide)
                    obtain ⟨υ, u1, u2, u3⟩ := v2 c7
                    rw [if_pos c7]
                    refine ⟨fun q => (by cases q), fun y hy => ?_⟩
                    injection hy with hy
                    subst hy
                    have eA : Ex T' (adO T' nop' (r, 4, np, 0)) np' nst' npr' nop' np' nst' npr' (nop' + 1) 9999 9999 r := Ex.aO (w := (r, 4, np, 0))
                    have sk0 : ∀ n x t, skM ns b PT' T' r n x t nop' = skM ns b PT T r n x t nop := fun n x t => skM_fr t6 hW t7.1 hrn (by omega)
                    refine Or.inr ⟨υ, 1 + c + 1, np', nst', npr', nop' + 1, _, PT', (r1.tr t1).tr (Rn.m5 u1), by show 1 + c + 1 + 8 * p + 2 ≤ 8 * (z.1 + 1); omega, u2, (a1.tr (u3.wk (e := d + 1) (by omega)) (Nat.le_refl _)).c, (t6.wk (Or.inl rfl) (Or.inl rfl) (Or.inr (by omega))).tr eA (Or.inl rfl) (Or.inl rfl) (Or.inl rfl), gdT.tr hW t6 t7 hW' eA (gdT.nil eA) (Or.inr (by omega)) (Or.inr (by omega)) (Or.inl hrn), ⟨⟨by have := t10.1.1; show np' ≤ z.1 + 1; omega, by have := t10.1.2.1; show nst' ≤ z.1 + 1; omega, by have := t10.1.2.2.1; show npr' ≤ z.1 + 1; omega, by show nop' + 1 ≤ z.1 + 1; omega⟩, by show nop' + 1 + p ≤ nop + (z.1 + 1); omega⟩, fun n x t => ?_⟩
                    have q := sk_op (ns := ns) (PT := PT') (r := r) (kd := 4) (ar := np) (ln := 0) (n := n) (x := x) (t := t) (v := ctM ns (PT' np) n x t) hW' rfl
                    rw [q, sk0, t8]
                  · rw [if_neg c7]
                    exact ⟨fun _ => (rBad.at (Rn.m5 (v1 c7)) g2 agR0.rf).bk (r1.tr t1) (by omega) a1.1, fun y hy => by cases hy⟩
              · rw [hP4 c6]
                exact ⟨fun _ => rBad.at (Rn.m6 (by rw [kk, z1 c6]; rfl)) hp agR0.rf, fun y hy => by cases hy⟩
            · rw [hw, if_neg (by decide), if_neg (by decide), if_neg (by decide), if_pos rfl] at eO
              obtain ⟨z1, z2⟩ := y3 hw
              rw [eO]
              by_cases c6 : d < 4
              · obtain ⟨τ1, s1, s2, s3, s4, s5, s6, s7⟩ := z2 c6
                have r1 : Rn F 6 σ 6 τ1 1 := Rn.m6 (by rw [kk, s1]; rfl)
                have x := hE' c6 τ1 (nmE b p + 1) np nst npr nop T PT r s2 ⟨by omega, by omega, by omega, by omega⟩ s5 hrn s6 s7 (Or.inr s4)
                cases hq : E' (nmE b p + 1) with
                | none => exact ⟨fun _ => (x.1 hq).bk r1 (by omega) s3.1, fun y hy => by cases hy⟩
                | some z =>
                  obtain ⟨g1, g2, g3⟩ := hgE' _ _ (by omega) hq
                  dsimp only
                  rcases x.2 z hq with ⟨hdg, hbd⟩ | ⟨τ, c, su, co, np', nst', npr', nop', T', PT', u1, u2, u3, u4, u5, u6, u7, u8, u9, u10, u11, u12⟩
                  · rw [if_neg (fun q => by rw [q] at hdg; exact absurd hdg (by decide))]
                    exact ⟨fun _ => hbd.bk r1 (by omega) s3.1, fun y hy => by cases hy⟩
                  · have hle := u9.1
                    have hbn' := u3.2.2.2.2.2.2
                    have a1 : agF (d + 1) σ τ := s3.tr u4.1 (Nat.le_refl _)
                    obtain ⟨v1, v2⟩ := cls_n (F := F) (r := r) hb u3 (by omega) (by rw [u4.2.2]; exact s5) (by rw [a1.2 d (by omega) 1356 (by decide) (by decide)]; exact hr) (by omega) u5 u6 u7 u8 (by rw [u4.2.1]; exact s4)
                    by_cases c7 : b.getD z.1 0 = 41
                    · have hl7 := ch_lt c7 (by decide)
                      obtain ⟨υ, w1, w2, w3⟩ := v1 c7
                      rw [if_pos c7]
                      refine ⟨fun q => (by cases q), fun y hy => ?_⟩
                      injection hy with hy
                      subst hy
                      have hW' := u3.2.2.2.1
                      have eA : Ex T' (adC T' nop' r su) np' nst' npr' nop' np' nst' npr' (nxC nop' su) 9999 9999 r := Ex.aC
                      have eB : Ex (adC T' nop' r su) (adC (adC T' nop' r su) (nxC nop' su) r co) np' nst' npr' (nxC nop' su) np' nst' npr' (nxC (nxC nop' su) co) 9999 9999 r := Ex.aC
                      have eC : Ex (adC (adC T' nop' r su) (nxC nop' su) r co) (adO (adC (adC T' nop' r su) (nxC nop' su) r co) (nxC (nxC nop' su) co) (r, 6, 0, 0)) np' nst' npr' (nxC (nxC nop' su) co) np' nst' npr' (nxC (nxC nop' su) co + 1) 9999 9999 r := Ex.aO (w := (r, 6, 0, 0))
                      have eABC := (eA.tr eB (Or.inl rfl) (Or.inl rfl) (Or.inl rfl)).tr eC (Or.inl rfl) (Or.inl rfl) (Or.inl rfl)
                      have hWB : TW b (adC (adC T' nop' r su) (nxC nop' su) r co) np' nst' npr' (nxC (nxC nop' su) co) := (hW'.aC (by omega) (by omega)).aC (by omega) (by omega)
                      refine Or.inr ⟨υ, 1 + c + 1, np', nst', npr', nxC (nxC nop' su) co + 1, _, PT', (r1.tr u1).tr w1, by show 1 + c + 1 + 8 * p + 2 ≤ 8 * (z.1 + 1); omega, w2, (a1.tr w3 (Nat.le_refl _)).c, u9.tr eABC (Or.inl rfl) (Or.inl rfl) (Or.inl rfl), gdT.tr hW u9 u10 hW' eABC (gdT.nil eABC) (Or.inr (by omega)) (Or.inr (by omega)) (Or.inl hrn), ⟨⟨by show np' ≤ z.1 + 1; omega, by show nst' ≤ z.1 + 1; omega, by show npr' ≤ z.1 + 1; omega, by show nxC (nxC nop' su) co + 1 ≤ z.1 + 1; omega⟩, by show nxC (nxC nop' su) co + 1 + p ≤ nop + (z.1 + 1); omega⟩, fun n x t => ?_⟩
                      have q := skM_adO (ns := ns) (PT := PT') (n := n) (x := x) (t := t) (w := (r, 6, 0, 0)) hWB
                      have q : skM ns b PT' (adO (adC (adC T' nop' r su) (nxC nop' su) r co) (nxC (nxC nop' su) co) (r, 6, 0, 0)) r n x t (nxC (nxC nop' su) co + 1) = opF ns b PT' (r, 6, 0, 0) n x t (skM ns b PT' (adC (adC T' nop' r su) (nxC nop' su) r co) r n x t (nxC (nxC nop' su) co)) := q
                      rw [q, u12]
                      rfl
                    · rw [if_neg c7]
                      exact ⟨fun _ => (v2 c7).bk (r1.tr u1) (by omega) a1.1, fun y hy => by cases hy⟩
              · rw [hE4 c6]
                exact ⟨fun _ => rBad.at (Rn.m6 (by rw [kk, z1 c6]; rfl)) hp agR0.rf, fun y hy => by cases hy⟩
        · exact pth (Or.inr (Or.inl c4)) (by unfold rdO; rw [if_neg c1, if_neg c2, if_neg (fun q => c4 q.2)])
end ROP
