/-! THE CLASS READS A STEP -/
section QST
variable {b : List Int32} {ns : List Nd} {SM SM' : Nat → Sm} {σ τ υ : St} {k : Nat}
theorem aqX.mono {E E' : Nat → Nat → Prop} {up us : Nat} (h : aqX E up us σ τ) (hE : ∀ A j, E A j → E' A j) : aqX E' up us σ τ := ⟨h.1, h.2.1, fun i hi => ⟨(h.2.2.1 i hi).1, (h.2.2.1 i hi).2.1, fun j hj => (h.2.2.1 i hi).2.2 j (fun q => hj (hE _ _ q))⟩, fun i hi => ⟨(h.2.2.2 i hi).1, fun j hj => (h.2.2.2 i hi).2 j (fun q => hj (hE _ _ q))⟩⟩
theorem aqX.P {E : Nat → Nat → Prop} {up us i : Nat} (h : aqX E up us σ τ) (hi : i < up) (hE : ∀ j, ¬ E (1193 + i) j) : eqP σ τ i := by
  have a := h.2.2.1 i hi
  exact ⟨⟨fun j _ _ => by rw [a.1], fun j _ => a.2.2 j (hE j), fun _ => by rw [a.2.1]⟩, by rw [a.1], a.2.2 3 (hE 3)⟩
theorem aqX.R {E : Nat → Nat → Prop} {up us i : Nat} (h : aqX E up us σ τ) (hi : i < up) (hE : ∀ j, ¬ j = 3 → ¬ E (1193 + i) j) : eqR σ τ i := by
  have a := h.2.2.1 i hi
  exact ⟨fun j _ _ => by rw [a.1], fun j hj => a.2.2 j (hE j hj), fun _ => by rw [a.2.1]⟩
theorem aqX.S {E : Nat → Nat → Prop} {up us i : Nat} (h : aqX E up us σ τ) (hi : i < us) (hE : ∀ j, ¬ E (1033 + 2 * i) j) (hM : SM' i = SM i) : eqS SM SM' σ τ i := by
  have a := h.2.2.2 i hi
  exact ⟨⟨fun j _ => by rw [a.1], fun j _ => a.2 j (hE j), hM⟩, a.2 6 (hE 6)⟩
theorem aqX.Q {E : Nat → Nat → Prop} {up us i : Nat} (h : aqX E up us σ τ) (hi : i < us) (hE : ∀ j, ¬ j = 6 → ¬ E (1033 + 2 * i) j) (hM : SM' i = SM i) : eqQ SM SM' σ τ i := by
  have a := h.2.2.2 i hi
  exact ⟨fun j _ => by rw [a.1], fun j hj => a.2 j (hE j hj), hM⟩
theorem rep_X {E : Nat → Nat → Prop} {a lo hi sl sh : Nat} {e : Ev} (g : rep b ns SM σ k a e lo hi sl sh) (hx : aqX E hi sh σ τ) (hE : ∀ i j, lo ≤ i → i < hi → E (1193 + i) j → i = a ∧ j = 3) (hS : ∀ i j, sl ≤ i → i < sh → ¬ E (1033 + 2 * i) j) (hM : ∀ i, i < sh → SM' i = SM i) : rep b ns SM' τ k a e lo hi sl sh := by
  have r := (rep_le g).1
  exact rep_fr k _ _ _ _ _ _ g (hx.R (by omega) (fun j hj q => hj (hE a j (by omega) (by omega) q).2)) (fun i h1 h2 h3 => hx.P h2 (fun j q => h3 (hE i j h1 h2 q).1)) (fun i h1 h2 => hx.S h2 (fun j => hS i j h1 h2) (hM i h2))
theorem stR_X {E : Nat → Nat → Prop} {i lo hi sl sh : Nat} {m : Sm} (g : stR b ns SM (rep b ns SM σ k) σ i m lo hi sl sh) (hx : aqX E hi sh σ τ) (hE : ∀ i j, lo ≤ i → i < hi → ¬ E (1193 + i) j) (hS : ∀ z j, sl ≤ z → z < sh → E (1033 + 2 * z) j → z = i ∧ j = 6) (hM : ∀ i, i < sh → SM' i = SM i) : stR b ns SM' (rep b ns SM' τ k) τ i m lo hi sl sh := by
  have r := stR_le g
  have e := g.1
  exact stR_fr (rep_fr k) g (hx.Q (by omega) (fun j hj q => hj (hS i j (by omega) (by omega) q).2) (hM i (by omega))) (fun z h1 h2 => hx.P h2 (fun j => hE z j h1 h2)) (fun z h1 h2 => hx.S h2 (fun j q => by have := (hS z j (by omega) h2 q).1; omega) (hM z h2))
/-- where the next predicate of a step goes -/
def tlS (σ : St) (S H J : Nat) : Prop := (σ.2.2.1 S 5 = .null ∧ H = S ∧ J = 4) ∨ (σ.2.2.1 S 5 = .ref H ∧ isO H 1 = true ∧ J = 3)
theorem f103_e {F S H J X : Nat} (h : tlS σ S H J) : f103 F S X σ = oV (uR (uR σ H J (.ref X)) S 5 (.ref X)) := by
  unfold f103
  rcases h with ⟨h1, h2, h3⟩ | ⟨h1, h2, h3⟩
  · rw [h1, mRn, ltE, ltE, h2, h3]
  · rw [h1, mRr, if_pos h2, mRr, if_pos h2, ltE, ltE, h3]
def EXs (S H J A j : Nat) : Prop := (A = H ∧ j = J) ∨ (A = S ∧ j = 5)
theorem app_X {S H J X up us : Nat} {x y : Value} : aqX (EXs S H J) up us σ (uR (uR σ H J x) S 5 y) := by
  refine ⟨rfl, fun _ _ => rfl, fun i hi => ⟨rfl, rfl, fun j hj => ?_⟩, fun i hi => ⟨rfl, fun j hj => ?_⟩⟩
  · rw [xR3, if_neg (fun q => hj (Or.inr q)), xR3, if_neg (fun q => hj (Or.inl q))]
  · rw [xR3, if_neg (fun q => hj (Or.inr q)), xR3, if_neg (fun q => hj (Or.inl q))]
theorem cQP.r {p up us : Nat} {a j : Nat} {x : Value} (h : cQP b σ p up us) : cQP b (uR σ a j x) p up us := h
end QST
def gXr (F : Nat) (b : List Int32) (ns : List Nd) (k : Nat) (g : Int32 → St → Rs) (d : Nat) (E : Nat → Option (Nat × Ev)) : Prop := ∀ σ p up us SM, cQP b σ p up us → up ≤ p → 3 * us ≤ 2 * p → rtE b ns k SM (g (Int32.ofNat d) σ) σ up us (E p)
section QPL
variable {F d k : Nat} {b : List Int32} {ns : List Nd} {g : Int32 → St → Rs} {E : Nat → Option (Nat × Ev)}
theorem f52_e {σ : St} (hd : d ≤ 4) : f52 F (Int32.ofNat d) σ = if d < 4 then oI (Int32.ofNat (d + 1)) σ else oT 10 σ := by
  unfold f52
  by_cases c : d < 4
  · rw [if_pos (show Int32.ofNat d < 4 from (oN_lt (q := 4) (by omega) (by decide)).mpr c), if_pos c, oN_p1]
  · rw [if_neg (show ¬ Int32.ofNat d < 4 from fun q => c ((oN_lt (q := 4) (by omega) (by decide)).mp q)), if_neg c]
theorem f47_59_e (hb : b.length ≤ 120) (hd : d ≤ 4) (hE : d < 4 → gXr F b ns k (f53 F g) (d + 1) E) (hE4 : ¬ d < 4 → ∀ p, E p = none) (hgE : gE ns b E) {i : Nat} : ∀ (n kk p up us turn H J : Nat) (σ : St) (SM : Nat → Sm), cQP b σ p up us → up ≤ p → 3 * us ≤ 2 * p + 2 → i < us → 3 * turn ≤ p → b.length + 2 ≤ n + p → tlS σ (1033 + 2 * i) H J → ((H = 1033 + 2 * i ∧ J = 4) ∨ ∃ h, h < up ∧ H = 1193 + h ∧ J = 3) → σ.2.2.1 H J = .null → (rdQ b E n p = none → ∃ τ, f47_59 F g (kk + n) (Int32.ofNat d) (1033 + 2 * i) (Int32.ofNat turn) σ = oT 10 τ ∧ aqP 0 0 σ τ) ∧ ∀ y, rdQ b E n p = some y → ∃ (τ : St) (u2 s2 : Nat) (SM' : Nat → Sm), f47_59 F g (kk + n) (Int32.ofNat d) (1033 + 2 * i) (Int32.ofNat turn) σ = some (.inl (some (.ref (1033 + 2 * i))), τ) ∧ aqX (EXs (1033 + 2 * i) H J) up us σ τ ∧ cQP b τ y.1 u2 s2 ∧ (∀ i, i < us → SM' i = SM i) ∧ (up ≤ u2 ∧ us ≤ s2 ∧ u2 ≤ y.1 ∧ 3 * s2 ≤ 2 * y.1 + 2) ∧ pch (rep b ns SM' τ k) τ y.2 (τ.2.2.1 H J) up u2 us s2 := by
  intro n
  induction n with
  | zero =>
    intro kk p up us turn H J σ SM h h1 h2 h3 h4 h5 h6 h7 h8
    have := h.2.2.2.2.1
    omega
  | succ n ih =>
    intro kk p up us turn H J σ SM h h1 h2 h3 h4 h5 h6 h7 h8
    have hp := h.2.2.2.2.1
    have h7s := h.2.2.2.2.2.2.1
    rw [show kk + (n + 1) = (kk + n) + 1 by omega, f47_59.eq_2, if_pos (show Int32.ofNat turn < 120 from (oN_lt (q := 120) (by omega) (by decide)).mpr (by omega)), f44_e hb h]
    by_cases c1 : b.getD p 0 = 91
    · have hl := ch_lt c1 (by decide)
      have hm := h.mv (q := p + 1) (by omega)
      rw [if_pos c1, cIo, if_neg (show ¬ (1 : Int32) = 0 by decide), f52_e hd]
      by_cases c2 : d < 4
      · rw [if_pos c2, cIo]
        have x1 := hE c2 (uI σ 1030 5 (Int32.ofNat (p + 1))) (p + 1) up us SM hm (by omega) (by omega)
        cases hq : E (p + 1) with
        | none =>
          obtain ⟨τ, t1, t2⟩ := x1.1 hq
          have e : rdQ b E (n + 1) p = none := by
            unfold rdQ
            rw [if_pos c1, hq]
          rw [e, t1, cRt]
          exact ⟨fun _ => ⟨τ, rfl, (aqP.mv (up := 0) (us := 0)).t0 t2⟩, fun y hy => by cases hy⟩
        | some z =>
          obtain ⟨τ1, c, u1, s1, SM1, t1, t2, t3, t4, t5, t6, t7, t8⟩ := x1.2 z hq
          obtain ⟨z1, z2, z3⟩ := hgE _ _ (by omega) hq
          have hcl := (rep_le t6).1
          have hu1 := t3.2.2.2.2.2.1
          have hs1 := t3.2.2.2.2.2.2.1
          have a1 : aqP up us σ τ1 := (aqP.mv (up := up) (us := us)).tr t2 (Nat.le_refl _) (Nat.le_refl _)
          have tl1 : tlS τ1 (1033 + 2 * i) H J := by
            unfold tlS
            rw [(a1.2.2.2 i h3).2]
            exact h6
          have cc : cQP b (uR (uR τ1 H J (.ref (1193 + c))) (1033 + 2 * i) 5 (.ref (1193 + c))) z.1 u1 s1 := t3
          rw [t1, cRo, if_pos (prt_f c (by omega)), f103_e tl1, cVo, f50_e hb cc]
          have x2 : ∀ uu ss, aqX (EXs (1033 + 2 * i) H J) uu ss τ1 (uR (uR τ1 H J (.ref (1193 + c))) (1033 + 2 * i) 5 (.ref (1193 + c))) := fun uu ss => app_X (X := 0)
          by_cases c3 : b.getD z.1 0 = 93
          · have hl3 := ch_lt c3 (by decide)
            rw [if_pos c3, cVo, oN_p1]
            have cc2 := cc.mv (q := z.1 + 1) (by omega)
            have x3 : ∀ uu ss, aqX (EXs (1033 + 2 * i) H J) uu ss τ1 (uI (uR (uR τ1 H J (.ref (1193 + c))) (1033 + 2 * i) 5 (.ref (1193 + c))) 1030 5 (Int32.ofNat (z.1 + 1))) := fun uu ss => (x2 uu ss).tr (E' := fun _ _ => False) (u2 := uu) (s2 := ss) ((aqP.mv).x) (Nat.le_refl _) (Nat.le_refl _) (fun _ _ _ q => q.elim) (fun _ _ _ q => q.elim)
            have hne : ¬ (1193 + c = H ∧ 3 = J) ∧ ¬ (1193 + c = 1033 + 2 * i) := by
              refine ⟨fun q => ?_, by omega⟩
              rcases h7 with ⟨g1, g2⟩ | ⟨hh, g1, g2, g3⟩ <;> omega
            have nul : (uI (uR (uR τ1 H J (.ref (1193 + c))) (1033 + 2 * i) 5 (.ref (1193 + c))) 1030 5 (Int32.ofNat (z.1 + 1))).2.2.1 (1193 + c) 3 = .null := by
              rw [xI2, xR3, if_neg (by omega), xR3, if_neg hne.1]
              exact t7
            have tl2 : tlS (uI (uR (uR τ1 H J (.ref (1193 + c))) (1033 + 2 * i) 5 (.ref (1193 + c))) 1030 5 (Int32.ofNat (z.1 + 1))) (1033 + 2 * i) (1193 + c) 3 := Or.inr ⟨by rw [xI2, xR3, if_pos ⟨rfl, rfl⟩], prt_f c (by omega), rfl⟩
            have ih2 := ih kk (z.1 + 1) u1 s1 (turn + 1) (1193 + c) 3 _ SM1 cc2 (by omega) (by omega) (by omega) (by omega) (by omega) tl2 (Or.inr ⟨c, by omega, rfl, rfl⟩) nul
            cases hr : rdQ b E n (z.1 + 1) with
            | none =>
              obtain ⟨τ, v1, v2⟩ := ih2.1 hr
              have e : rdQ b E (n + 1) p = none := by
                unfold rdQ
                rw [if_pos c1, hq]
                dsimp only
                rw [if_pos c3, hr]
              rw [e, v1]
              exact ⟨fun _ => ⟨τ, rfl, (a1.z.t0 (x3 0 0).z).t0 v2⟩, fun y hy => by cases hy⟩
            | some w =>
              obtain ⟨τ, u2, s2, SM2, v1, v2, v3, v4, v5, v6⟩ := ih2.2 w hr
              have e : rdQ b E (n + 1) p = some (w.1, z.2 :: w.2) := by
                unfold rdQ
                rw [if_pos c1, hq]
                dsimp only
                rw [if_pos c3, hr]
              rw [e, v1]
              refine ⟨fun hx => (by cases hx), fun y hy => ?_⟩
              injection hy with hy
              subst hy
              have y1 : aqX (EXs (1033 + 2 * i) H J) up us σ τ := by
                refine ((a1.x (E := EXs (1033 + 2 * i) H J)).tr (x3 u1 s1) (by omega) (by omega) (fun _ _ _ q => q) (fun _ _ _ q => q)).tr v2 (by omega) (by omega) (fun z j hz q => ?_) (fun z j hz q => ?_)
                · rcases q with q | q
                  · omega
                  · exact Or.inr q
                · rcases q with q | q
                  · omega
                  · exact Or.inr q
              have y2 : τ.2.2.1 H J = .ref (1193 + c) := by
                have w0 : (uI (uR (uR τ1 H J (.ref (1193 + c))) (1033 + 2 * i) 5 (.ref (1193 + c))) 1030 5 (Int32.ofNat (z.1 + 1))).2.2.1 H J = .ref (1193 + c) := by
                  rw [xI2, xR3]
                  split
                  · rfl
                  · rw [xR3, if_pos ⟨rfl, rfl⟩]
                have v2' := v2
                generalize (uI (uR (uR τ1 H J (.ref (1193 + c))) (1033 + 2 * i) 5 (.ref (1193 + c))) 1030 5 (Int32.ofNat (z.1 + 1))) = σ3 at v2' w0
                rw [← w0]
                rcases h7 with ⟨g1, g2⟩ | ⟨hh, g1, g2, g3⟩
                · rw [g1, g2]
                  exact (v2'.2.2.2 i (by omega)).2 4 (fun q => by rcases q with q | q <;> omega)
                · rw [g2, g3]
                  exact (v2'.2.2.1 hh (by omega)).2.2 3 (fun q => by rcases q with q | q <;> omega)
              have y3 : rep b ns SM2 τ k c z.2 up u1 us s1 := by
                refine rep_X (E := fun A j => EXs (1033 + 2 * i) H J A j ∨ EXs (1033 + 2 * i) (1193 + c) 3 A j) t6 (((x3 u1 s1).mono (fun A j q => Or.inl q)).tr v2 (Nat.le_refl _) (Nat.le_refl _) (fun _ _ _ q => Or.inr q) (fun _ _ _ q => Or.inr q)) (fun z j z1 z2 q => ?_) (fun z j z1 z2 q => ?_) v4
                · rcases q with (q | q) | (q | q)
                  · exfalso
                    rcases h7 with ⟨g1, g2⟩ | ⟨hh, g1, g2, g3⟩ <;> omega
                  · omega
                  · omega
                  · omega
                · rcases q with (q | q) | (q | q)
                  · rcases h7 with ⟨g1, g2⟩ | ⟨hh, g1, g2, g3⟩ <;> omega
                  · omega
                  · omega
                  · omega
              refine ⟨τ, u2, s2, SM2, rfl, y1, v3, fun j hj => by rw [v4 j (by omega), t4 j hj], ⟨by omega, by omega, v5.2.2.1, v5.2.2.2⟩, c, u1, s1, y2, y3, v6⟩
          · have e : rdQ b E (n + 1) p = none := by
              unfold rdQ
              rw [if_pos c1, hq]
              dsimp only
              rw [if_neg c3]
            rw [if_neg c3, cVt, e]
            exact ⟨fun _ => ⟨_, rfl, a1.z.t0 (x2 0 0).z⟩, fun y hy => by cases hy⟩
      · have e : rdQ b E (n + 1) p = none := by
          unfold rdQ
          rw [if_pos c1, hE4 c2]
        rw [if_neg c2, cIt, e]
        exact ⟨fun _ => ⟨_, rfl, aqP.mv⟩, fun y hy => by cases hy⟩
    · have e : rdQ b E (n + 1) p = some (p, []) := by
        unfold rdQ
        rw [if_neg c1]
      rw [if_neg c1, cIo, if_pos rfl, e]
      refine ⟨fun hx => (by cases hx), fun y hy => ?_⟩
      injection hy with hy
      subst hy
      exact ⟨σ, up, us, SM, rfl, aqP.rf.x, h, fun _ _ => rfl, ⟨Nat.le_refl _, Nat.le_refl _, h1, h2⟩, h8, Nat.le_refl _, Nat.le_refl _⟩
end QPL
