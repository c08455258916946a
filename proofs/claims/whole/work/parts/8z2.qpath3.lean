/-! THE CLASS READS A PATH, whole -/
section QP3
variable {F d k : Nat} {b : List Int32} {ns : List Nd} {g : Int32 → St → Rs} {E : Nat → Option (Nat × Ev)}
def gPr (b : List Int32) (ns : List Nd) (k : Nat) (g : Int32 → St → Rs) (d : Nat) (P : Nat → Option (Nat × Sm)) : Prop := ∀ σ p up us SM, cQP b σ p up us → up ≤ p → 3 * us ≤ 2 * p → rtP b ns k SM (g (Int32.ofNat d) σ) σ up us (P p)
theorem f42_e (hF : 1000 ≤ F) (hb : b.length ≤ 120) (hn : ns.length ≤ 32) (hd : d ≤ 4) (hE : d < 4 → gXr F b ns k (f53 F g) (d + 1) E) (hE4 : ¬ d < 4 → ∀ p, E p = none) (hgE : gE ns b E) : gPr b ns k (f42 F g) d (rdP ns b E) := by
  intro σ p up us SM h hu hs
  have hp := h.2.2.2.2.1
  have h7 := h.2.2.2.2.2.2.1
  unfold f42
  by_cases hup : up < 120
  · rw [f43_e h hup, cRo, if_pos (prt_f up hup)]
    have f := nwP.f (σ := σ) (up := up) (s := 6)
    have cp := nwP.cp (s := 6) h hup
    have ag : aqP up us σ (nwP σ up 6) := nwP.ag hup h7
    generalize nwP σ up 6 = τ1 at f cp ag ⊢
    obtain ⟨f0, f4, f5, f8, f3, f6, f7⟩ := f
    -- the loop, and what it leaves
    have loop : ∀ (σ5 : St) (q : Nat) (r : Bool), cQP b σ5 q (up + 1) us → p ≤ q → σ5.2 = τ1.2 → σ5.1 (1193 + up) 0 = 6 → σ5.1 (1193 + up) 4 = 0 → σ5.1 (1193 + up) 5 = b2i r → aqP up us σ σ5 → rtP b ns k SM (f42_49 F g (Int32.ofNat d) (1193 + up) σ5) σ up us (match rdL ns b E 130 q with | none => none | some x => some (x.1, pthM ns r x.2)) := by
      intro σ5 q r c5 hpq e2 e0 e4 e5 a5
      have hq := c5.2.2.2.2.1
      have lp := f42_51_e (a0 := up) hF hb hn hd hE hE4 hgE (F - 130) 130 q (up + 1) us 0 (1193 + up) σ5 SM c5 (by omega) (by omega) (by omega) (by omega) (by omega) (Or.inl ⟨by rw [e2]; exact f7, rfl⟩) (Or.inl rfl) (by rw [e2]; exact f6)
      rw [show F - 130 + 130 = F by omega] at lp
      unfold f42_49
      rw [show (0 : Int32) = Int32.ofNat 0 from rfl]
      cases hr : rdL ns b E 130 q with
      | none =>
        obtain ⟨τ, v1, v2⟩ := lp.1 hr
        rw [v1]
        exact ⟨fun _ => ⟨τ, rfl, a5.z.t0 v2⟩, fun y hy => by cases hy⟩
      | some w =>
        obtain ⟨τ, u2, s2, SM2, v1, v2, v3, v4, v5, v6⟩ := lp.2 w hr
        rw [v1]
        refine ⟨fun hx => (by cases hx), fun y hy => ?_⟩
        injection hy with hy
        subst hy
        have ai := v2.2.2.1 up (by omega)
        refine ⟨τ, u2, s2, SM2, rfl, a5.tr (v2.p (u2 := up) (s2 := us) (fun i j hi q => by rcases q with q | q <;> omega) (fun i j hi q => by rcases q with q | q <;> omega) (by omega) (Nat.le_refl _)) (Nat.le_refl _) (Nat.le_refl _), v3, v4, ⟨by omega, v5.2.1, v5.2.2.1, v5.2.2.2⟩, ⟨rfl, by omega, v5.2.1, by rw [ai.1]; exact e0, r, w.2, by rw [ai.1]; exact e5, rfl, v6⟩, ?_, by rw [ai.1]; exact e4⟩
        rw [ai.2.2 3 (fun q => by rcases q with q | q <;> omega), e2]
        exact f3
    rw [f44_e hb cp]
    unfold rdP
    by_cases c1 : b.getD p 0 = 47
    · have hl := ch_lt c1 (by decide)
      rw [if_pos c1, if_pos c1, cIo, if_pos (Or.inr rfl), ltE, ltE, u_eq, if_neg (show ¬ (1 : Int32) = 0 by decide), ltE]
      have c3 : cQP b (uI (uI τ1 1030 5 (Int32.ofNat (p + 1))) (1193 + up) 5 1) (p + 1) (up + 1) us := by
        obtain ⟨g1, g2, g3, g4, g5, g6, g7, g8⟩ := cp.mv (q := p + 1) (by omega)
        refine ⟨g1.fr (u_ne (by omega)) (u_ne (by omega)), by rw [u_ne (by omega)]; exact g2, by rw [u_ne (by omega)]; exact g3, by rw [u_ne (by omega)]; exact g4, g5, g6, g7, fun i hi => ?_⟩
        rw [u_ne (by omega)]
        exact g8 i hi
      have a3 : aqP up us σ (uI (uI τ1 1030 5 (Int32.ofNat (p + 1))) (1193 + up) 5 1) := by
        refine ag.tr (u2 := up) (s2 := us) ⟨rfl, fun A hA => ?_, fun i hi => ⟨?_, rfl, rfl⟩, fun i hi => ⟨?_, rfl⟩⟩ (Nat.le_refl _) (Nat.le_refl _)
        · rw [u_ne (by omega), u_ne (by omega)]
        · rw [u_ne (by omega), u_ne (by omega)]
        · rw [u_ne (by omega), u_ne (by omega)]
      have e0 : (uI (uI τ1 1030 5 (Int32.ofNat (p + 1))) (1193 + up) 5 1).1 (1193 + up) 0 = 6 := by
        rw [u_at, if_neg (by decide), u_ne (by omega)]
        exact f0
      have e4 : (uI (uI τ1 1030 5 (Int32.ofNat (p + 1))) (1193 + up) 5 1).1 (1193 + up) 4 = 0 := by
        rw [u_at, if_neg (by decide), u_ne (by omega)]
        exact f4
      have e5 : (uI (uI τ1 1030 5 (Int32.ofNat (p + 1))) (1193 + up) 5 1).1 (1193 + up) 5 = b2i true := u_eq
      have e2 : (uI (uI τ1 1030 5 (Int32.ofNat (p + 1))) (1193 + up) 5 1).2 = τ1.2 := rfl
      generalize (uI (uI τ1 1030 5 (Int32.ofNat (p + 1))) (1193 + up) 5 1) = σ5 at c3 a3 e0 e4 e5 e2 ⊢
      have lp := loop σ5 (p + 1) true c3 (by omega) e2 e0 e4 e5 a3
      rw [c3.ch hb, cIo]
      by_cases c4 : b.getD (p + 1) 0 = 47
      · rw [if_pos c4, if_pos (Or.inl c4)]
        exact lp
      · rw [if_neg c4, f45_e hb c3, cIo, ifb]
        by_cases c5 : bgS (b.getD (p + 1) 0) = true
        · rw [if_pos c5, if_pos (Or.inr c5)]
          exact lp
        · rw [if_neg c5, if_neg (fun q => q.elim c4 c5)]
          refine ⟨fun hx => (by cases hx), fun y hy => ?_⟩
          injection hy with hy
          subst hy
          refine ⟨σ5, up + 1, us, SM, rfl, a3, c3, fun _ _ => rfl, ⟨by omega, Nat.le_refl _, by show up + 1 ≤ p + 1; omega, by show 3 * us ≤ 2 * (p + 1) + 2; omega⟩, ⟨rfl, by omega, Nat.le_refl _, e0, true, [], e5, rfl, ?_, Nat.le_refl _, Nat.le_refl _⟩, by rw [e2]; exact f3, e4⟩
          rw [e2]
          exact f6
    · rw [if_neg c1, if_neg c1, cIo, if_pos (Or.inl rfl), ltE, ltE, u_eq, if_pos rfl]
      have same : uI τ1 (1193 + up) 5 0 = τ1 := uI_same f5
      rw [same]
      exact loop τ1 p false cp (Nat.le_refl _) rfl f0 f4 f5 ag
  · rw [f43_t h hup, cRt, rdP_end (by omega)]
    exact ⟨fun _ => ⟨_, rfl, aqP.rf⟩, fun y hy => by cases hy⟩
end QP3
