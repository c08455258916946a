/-! THE CLASS READS A STEP, A PATH -/
def upS (SM : Nat → Sm) (i : Nat) (m : Sm) : Nat → Sm := fun j => if j = i then m else SM j
section QPA
variable {F d k : Nat} {b : List Int32} {ns : List Nd} {g : Int32 → St → Rs} {E : Nat → Option (Nat × Ev)} {SM : Nat → Sm} {σ : St}
theorem stR_dot {a up us : Nat} (ha : a < 12) : stR b ns (upS SM us (stpM ns b a 4 0 0 [])) (rep b ns (upS SM us (stpM ns b a 4 0 0 [])) (nwS σ us (100 + a) 4) k) (nwS σ us (100 + a) 4) us (stpM ns b a 4 0 0 []) up up us (us + 1) := by
  have f := nwS.f (σ := σ) (us := us) (a := a) (t := 4)
  refine ⟨rfl, by omega, if_pos rfl, a, 4, 0, 0, [], f.1, ⟨ha, by decide, Nat.zero_le _⟩, rfl, f.2.1, Nat.le_refl _, Nat.le_refl _⟩
theorem f47_e {p up us : Nat} (hF : 1000 ≤ F) (hb : b.length ≤ 120) (hd : d ≤ 4) (hE : d < 4 → gXr F b ns k (f53 F g) (d + 1) E) (hE4 : ¬ d < 4 → ∀ p, E p = none) (hgE : gE ns b E) (h : cQP b σ p up us) (hu : up ≤ p + 1) (hs : 3 * us ≤ 2 * p + 1) : rtS b ns k SM (f47 F g (Int32.ofNat d) σ) σ up us (rdS ns b E p) := by
  have hp := h.2.2.2.2.1
  unfold f47
  rw [f44_e hb h]
  by_cases c1 : b.getD p 0 = 46
  · have hl := ch_lt c1 (by decide)
    have hus : us < 80 := by omega
    have hm := h.mv (q := p + 1) (by omega)
    rw [if_pos c1, cIo, if_neg (show ¬ (1 : Int32) = 0 by decide), f44_e hb hm]
    by_cases c2 : b.getD (p + 1) 0 = 46
    · have hl2 := ch_lt c2 (by decide)
      have hm2 := hm.mv (q := p + 1 + 1) (by omega)
      have e : rdS ns b E p = some (p + 2, stpM ns b 2 4 0 0 []) := by
        unfold rdS
        rw [if_pos c1, if_pos c2]
      have f := nwS.f (σ := uI (uI σ 1030 5 (Int32.ofNat (p + 1))) 1030 5 (Int32.ofNat (p + 1 + 1))) (us := us) (a := 2) (t := 4)
      rw [if_pos c2, cIo, if_neg (show ¬ (1 : Int32) = 0 by decide), f46_e hm2 hus, cRo, if_pos (stp_f us hus).2, e]
      refine ⟨fun hx => (by cases hx), fun y hy => ?_⟩
      injection hy with hy
      subst hy
      exact ⟨_, up, us + 1, upS SM us (stpM ns b 2 4 0 0 []), rfl, ((aqP.mv (up := up) (us := us)).tr aqP.mv (Nat.le_refl _) (Nat.le_refl _)).tr (nwS.ag hus) (Nat.le_refl _) (Nat.le_refl _), nwS.cp hm2 hus, fun i hi => if_neg (by omega), ⟨Nat.le_refl _, by omega, by show up ≤ p + 2; omega, by show 3 * (us + 1) ≤ 2 * (p + 2) + 2; omega⟩, stR_dot (by decide), f.2.2.2⟩
    · have e : rdS ns b E p = some (p + 1, stpM ns b 4 4 0 0 []) := by
        unfold rdS
        rw [if_pos c1, if_neg c2]
      have f := nwS.f (σ := uI σ 1030 5 (Int32.ofNat (p + 1))) (us := us) (a := 4) (t := 4)
      rw [if_neg c2, cIo, if_pos rfl, f46_e hm hus, cRo, if_pos (stp_f us hus).2, e]
      refine ⟨fun hx => (by cases hx), fun y hy => ?_⟩
      injection hy with hy
      subst hy
      exact ⟨_, up, us + 1, upS SM us (stpM ns b 4 4 0 0 []), rfl, (aqP.mv (up := up) (us := us)).tr (nwS.ag hus) (Nat.le_refl _) (Nat.le_refl _), nwS.cp hm hus, fun i hi => if_neg (by omega), ⟨Nat.le_refl _, by omega, by show up ≤ p + 1; omega, by show 3 * (us + 1) ≤ 2 * (p + 1) + 2; omega⟩, stR_dot (by decide), f.2.2.2⟩
  · rw [if_neg c1, cIo, if_pos rfl]
    obtain ⟨yy, k48⟩ := f48_e (F := F) (by omega) hb h
    rw [k48]
    cases hA : rdA b p with
    | none =>
      have e : rdS ns b E p = none := by
        unfold rdS
        rw [if_neg c1, hA]
      rw [e]
      exact ⟨fun _ => ⟨_, rfl, aqP.mv⟩, fun y hy => by cases hy⟩
    | some x =>
      obtain ⟨x1, x2, x3⟩ := rdA_ok hp hA
      have hm := h.mv x3
      show rtS b ns k SM (cR (some (.inl (some (.ref (100 + x.1))), uI σ 1030 5 (Int32.ofNat x.2))) _) _ _ _ _
      rw [cRo, if_pos (show isX (100 + x.1) = true by unfold isX; simp; omega)]
      by_cases hus : us < 80
      · rw [f46_e hm hus, cRo, if_pos (stp_f us hus).2]
        have f := nwS.f (σ := uI σ 1030 5 (Int32.ofNat x.2)) (us := us) (a := x.1) (t := 1)
        have f : cSt (nwS (uI σ 1030 5 (Int32.ofNat x.2)) us (100 + x.1) 1) (1033 + 2 * us) x.1 1 0 0 ∧ (nwS (uI σ 1030 5 (Int32.ofNat x.2)) us (100 + x.1) 1).2.2.1 (1033 + 2 * us) 4 = .null ∧ (nwS (uI σ 1030 5 (Int32.ofNat x.2)) us (100 + x.1) 1).2.2.1 (1033 + 2 * us) 5 = .null ∧ (nwS (uI σ 1030 5 (Int32.ofNat x.2)) us (100 + x.1) 1).2.2.1 (1033 + 2 * us) 6 = .null := f
        have cp := nwS.cp (a := 100 + x.1) (t := 1) hm hus
        have ag : aqP up us σ (nwS (uI σ 1030 5 (Int32.ofNat x.2)) us (100 + x.1) 1) := (aqP.mv (up := up) (us := us)).tr (nwS.ag hus) (Nat.le_refl _) (Nat.le_refl _)
        generalize nwS (uI σ 1030 5 (Int32.ofNat x.2)) us (100 + x.1) 1 = σ5 at f cp ag ⊢
        have main : ∀ (σ9 : St) (t : (Nat × Nat × Nat) × Nat), rdK b x.2 = some t → cQP b σ9 t.2 up (us + 1) → cSt σ9 (1033 + 2 * us) x.1 t.1.1 t.1.2.1 t.1.2.2 → aqP up us σ σ9 → σ9.2.2.1 (1033 + 2 * us) = σ5.2.2.1 (1033 + 2 * us) → rtS b ns k SM (f47_57 F g (Int32.ofNat d) (1033 + 2 * us) σ9) σ up us (rdS ns b E p) := by
          intro σ9 t ht ct cst agt rt
          obtain ⟨k1, k2, k3, k4⟩ := rdK_ok x3 ht
          have e : rdS ns b E p = match rdQ b E 130 t.2 with
              | none => none
              | some z => some (z.1, stpM ns b x.1 t.1.1 t.1.2.1 t.1.2.2 z.2) := by
            unfold rdS
            rw [if_neg c1, hA]
            dsimp only
            rw [ht]
            rfl
          have lp : ∀ SM0 : Nat → Sm, _ := fun SM0 => f47_59_e (F := F) (d := d) (k := k) (g := g) (E := E) hb hd hE hE4 hgE (i := us) 130 (F - 130) t.2 up (us + 1) 0 (1033 + 2 * us) 4 σ9 SM0 ct (by omega) (by omega) (by omega) (by omega) (by omega) (Or.inl ⟨by rw [rt]; exact f.2.2.1, rfl, rfl⟩) (Or.inl ⟨rfl, rfl⟩) (by rw [rt]; exact f.2.1)
          unfold f47_57
          rw [e]
          cases hq : rdQ b E 130 t.2 with
          | none =>
            obtain ⟨τ, t1, t2⟩ := (lp SM).1 hq
            rw [show F - 130 + 130 = F by omega] at t1
            rw [show (0 : Int32) = Int32.ofNat 0 from rfl, t1]
            exact ⟨fun _ => ⟨τ, rfl, agt.z.t0 t2⟩, fun y hy => by cases hy⟩
          | some z =>
            obtain ⟨τ, u2, s2, SM2, t1, t2, t3, t4, t5, t6⟩ := (lp (upS SM us (stpM ns b x.1 t.1.1 t.1.2.1 t.1.2.2 z.2))).2 z hq
            rw [show F - 130 + 130 = F by omega] at t1
            rw [show (0 : Int32) = Int32.ofNat 0 from rfl, t1]
            refine ⟨fun hx => (by cases hx), fun y hy => ?_⟩
            injection hy with hy
            subst hy
            have ai := t2.2.2.2 us (by omega)
            have r0 : τ.2.2.1 (1033 + 2 * us) 0 = σ9.2.2.1 (1033 + 2 * us) 0 := ai.2 0 (fun q => by rcases q with q | q <;> omega)
            have r6 : τ.2.2.1 (1033 + 2 * us) 6 = σ9.2.2.1 (1033 + 2 * us) 6 := ai.2 6 (fun q => by rcases q with q | q <;> omega)
            refine ⟨τ, u2, s2, SM2, rfl, agt.tr (t2.p (u2 := up) (s2 := us) (fun i j hi q => by rcases q with q | q <;> omega) (fun i j hi q => by rcases q with q | q <;> omega) (Nat.le_refl _) (by omega)) (Nat.le_refl _) (Nat.le_refl _), t3, fun i hi => ?_, ⟨t5.1, by omega, t5.2.2.1, t5.2.2.2⟩, ⟨rfl, by omega, ?_, x.1, t.1.1, t.1.2.1, t.1.2.2, z.2, ?_, ⟨x1, k1, k2⟩, rfl, t6⟩, ?_⟩
            · rw [t4 i (by omega)]
              exact if_neg (by omega)
            · rw [t4 us (by omega)]
              exact if_pos rfl
            · exact ⟨by rw [r0]; exact cst.1, by rw [ai.1]; exact cst.2.1, by rw [ai.1]; exact cst.2.2.1, by rw [ai.1]; exact cst.2.2.2⟩
            · rw [r6, rt]
              exact f.2.2.2
        rw [f44_e hb cp]
        by_cases c3 : b.getD x.2 0 = 42
        · have hl3 := ch_lt c3 (by decide)
          rw [if_pos c3, cIo, if_neg (show ¬ (1 : Int32) = 0 by decide)]
          have hk : rdK b x.2 = some ((1, 0, 0), x.2 + 1) := by
            unfold rdK
            rw [if_pos c3]
          refine main _ _ hk (cp.mv (by omega)) ?_ (ag.tr (aqP.mv (up := up) (us := us)) (Nat.le_refl _) (Nat.le_refl _)) rfl
          obtain ⟨g1, g2, g3, g4⟩ := f.1
          exact ⟨g1, by rw [u_ne (by omega)]; exact g2, by rw [u_ne (by omega)]; exact g3, by rw [u_ne (by omega)]; exact g4⟩
        · rw [if_neg c3, cIo, if_pos rfl]
          have k49 := f49_e (F := F) (by omega) hb cp (by omega) f.1 c3
          cases hk : rdK b x.2 with
          | none =>
            obtain ⟨y2, t1⟩ := k49.1 hk
            have e : rdS ns b E p = none := by
              unfold rdS
              rw [if_neg c1, hA]
              dsimp only
              rw [hk]
            rw [t1, cVt, e]
            exact ⟨fun _ => ⟨_, rfl, ag.z.t0 aqP.mv⟩, fun y hy => by cases hy⟩
          | some t =>
            obtain ⟨τ, t1, t2, t3, t4, t5⟩ := k49.2 t hk
            rw [t1, cVo]
            refine main τ t hk t2 t3 (ag.tr ⟨by rw [t4], fun A hA => funext fun j => t5 A j (by omega) (by omega), fun i hi => ⟨funext fun j => t5 _ j (by omega) (by omega), by rw [t4], by rw [t4]⟩, fun i hi => ⟨funext fun j => t5 _ j (by omega) (by omega), by rw [t4]⟩⟩ (Nat.le_refl _) (Nat.le_refl _)) (by rw [t4])
      · rw [f46_t hm hus, cRt, rdS_end (by omega)]
        exact ⟨fun _ => ⟨_, rfl, aqP.mv⟩, fun y hy => by cases hy⟩
end QPA
