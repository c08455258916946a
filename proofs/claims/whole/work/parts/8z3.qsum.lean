/-! THE CLASS READS SUMS AND COMPARISONS -/
def EXt (a A j : Nat) : Prop := A = 1193 + a ∧ j = 3
section QSM
variable {F d k : Nat} {b : List Int32} {ns : List Nd} {g : Int32 → St → Rs} {O : Nat → Option (Nat × Ev)}
theorem f54_29_e {S : Nat} (hb : b.length ≤ 120) (hO : gXr F b ns k g d O) (hg : gO ns b O) : ∀ (n kk p up us turn a : Nat) (σ : St) (SM : Nat → Sm), cQP b σ p up us → (up ≤ p ∨ ((b.getD p 0 = 43 ∨ b.getD p 0 = 45) ∧ up ≤ p + 1)) → 3 * us ≤ 2 * p + 2 → a < up → 2 * turn ≤ p → b.length + 2 ≤ n + p → σ.2.2.1 (1193 + a) 3 = .null → (rdM b O n p = none → ∃ τ, f54_29 F g (kk + n) (Int32.ofNat d) (1193 + a) (1193 + S) (Int32.ofNat turn) σ = oT 10 τ ∧ aqP 0 0 σ τ) ∧ ∀ y, rdM b O n p = some y → ∃ (τ : St) (u2 s2 : Nat) (SM' : Nat → Sm), f54_29 F g (kk + n) (Int32.ofNat d) (1193 + a) (1193 + S) (Int32.ofNat turn) σ = some (.inl (some (.ref (1193 + S))), τ) ∧ aqX (EXt a) up us σ τ ∧ cQP b τ y.1 u2 s2 ∧ (∀ i, i < us → SM' i = SM i) ∧ (up ≤ u2 ∧ us ≤ s2 ∧ u2 ≤ y.1 ∧ 3 * s2 ≤ 2 * y.1 + 2) ∧ tch (rep b ns SM' τ k) τ y.2 (τ.2.2.1 (1193 + a) 3) up u2 us s2 := by
  intro n
  induction n with
  | zero =>
    intro kk p up us turn a σ SM h h1 h2 h3 h4 h5
    have := h.2.2.2.2.1
    omega
  | succ n ih =>
    intro kk p up us turn a σ SM h h1 h2 h3 h4 h5 h6
    have hp := h.2.2.2.2.1
    have hup := h.2.2.2.2.2.1
    rw [show kk + (n + 1) = (kk + n) + 1 by omega, f54_29.eq_2, if_pos (show Int32.ofNat turn < 120 from (oN_lt (q := 120) (by omega) (by decide)).mpr (by omega)), f59_e hb h, cIo, ifb]
    by_cases c : b.getD p 0 = 43 ∨ b.getD p 0 = 45
    · have hl : p < b.length := by
        rcases c with c | c
        · exact ch_lt c (by decide)
        · exact ch_lt c (by decide)
      rw [if_pos (decide_eq_true c), ltE, h.ch hb, cIo]
      have key : ∀ z0 : Int32, z0 = b2i (decide (b.getD p 0 = 45)) → (rdM b O (n + 1) p = none → ∃ τ, f54_64 F g (f54_29 F g (kk + n)) (Int32.ofNat d) (1193 + a) (1193 + S) (Int32.ofNat turn) z0 σ = oT 10 τ ∧ aqP 0 0 σ τ) ∧ ∀ y, rdM b O (n + 1) p = some y → ∃ (τ : St) (u2 s2 : Nat) (SM' : Nat → Sm), f54_64 F g (f54_29 F g (kk + n)) (Int32.ofNat d) (1193 + a) (1193 + S) (Int32.ofNat turn) z0 σ = some (.inl (some (.ref (1193 + S))), τ) ∧ aqX (EXt a) up us σ τ ∧ cQP b τ y.1 u2 s2 ∧ (∀ i, i < us → SM' i = SM i) ∧ (up ≤ u2 ∧ us ≤ s2 ∧ u2 ≤ y.1 ∧ 3 * s2 ≤ 2 * y.1 + 2) ∧ tch (rep b ns SM' τ k) τ y.2 (τ.2.2.1 (1193 + a) 3) up u2 us s2 := by
        intro z0 hz0
        have hm := h.mv (q := p + 1) (by omega)
        unfold f54_64
        rw [ltE, h.2.1, oN_p1, ltE]
        have x1 := hO (uI σ 1030 5 (Int32.ofNat (p + 1))) (p + 1) up us SM hm (by omega) (by omega)
        cases hq : O (p + 1) with
        | none =>
          obtain ⟨τ, t1, t2⟩ := x1.1 hq
          have e : rdM b O (n + 1) p = none := by
            unfold rdM
            rw [if_pos c, hq]
          rw [e, t1, cRt]
          exact ⟨fun _ => ⟨τ, rfl, (aqP.mv (up := 0) (us := 0)).t0 t2⟩, fun y hy => by cases hy⟩
        | some z =>
          obtain ⟨τ1, c', u1, s1, SM1, t1, t2, t3, t4, t5, t6, t7, t8⟩ := x1.2 z hq
          obtain ⟨z1, z2, z3⟩ := hg _ _ (by omega) hq
          have hcl := (rep_le t6).1
          have hu1 := t3.2.2.2.2.2.1
          have hs1 := t3.2.2.2.2.2.2.1
          have a1 : aqP up us σ τ1 := (aqP.mv (up := up) (us := us)).tr t2 (Nat.le_refl _) (Nat.le_refl _)
          have rd : (uR τ1 (1193 + a) 3 (.ref (1193 + c'))).2.2.1 (1193 + a) 3 = .ref (1193 + c') := by
            rw [xR3, if_pos ⟨rfl, rfl⟩]
          have hz : z0 = 0 ∨ z0 = 1 := by
            rw [hz0]
            exact b2i_z _
          rw [t1, cRo, if_pos (prt_f c' (by omega)), ltE, rd, mRr, if_pos (prt_f c' (by omega)), if_pos hz, ltE, oN_p1]
          have cc : cQP b (uI (uR τ1 (1193 + a) 3 (.ref (1193 + c'))) (1193 + c') 4 z0) z.1 u1 s1 := by
            obtain ⟨g1, g2, g3, g4, g5, g6, g7, g8⟩ := t3
            refine ⟨g1.fr (u_ne (by omega)) (u_ne (by omega)), by rw [u_ne (by omega)]; exact g2, by rw [u_ne (by omega)]; exact g3, by rw [u_ne (by omega)]; exact g4, g5, g6, g7, fun i hi => ?_⟩
            rw [u_ne (by omega)]
            exact g8 i hi
          have r2 : rep b ns SM1 (uI (uR τ1 (1193 + a) 3 (.ref (1193 + c'))) (1193 + c') 4 z0) k c' z.2 up u1 us s1 := by
            refine rep_fr k _ _ _ _ _ _ t6 ⟨fun j j1 j2 => ?_, fun j j1 => ?_, fun _ => rfl⟩ (fun i i1 i2 i3 => ⟨⟨fun j _ _ => ?_, fun j _ => ?_, fun _ => rfl⟩, ?_, ?_⟩) (fun i i1 i2 => ⟨⟨fun j _ => ?_, fun j _ => ?_, rfl⟩, ?_⟩)
            · rw [xI1, if_neg (by omega)]
              rfl
            · rw [xI2, xR3, if_neg (by omega)]
            · rw [xI1, if_neg (by omega)]
              rfl
            · rw [xI2, xR3, if_neg (by omega)]
            · rw [xI1, if_neg (by omega)]
              rfl
            · rw [xI2, xR3, if_neg (by omega)]
            · rw [xI1, if_neg (by omega)]
              rfl
            · rw [xI2, xR3, if_neg (by omega)]
            · rw [xI2, xR3, if_neg (by omega)]
          have x2 : aqX (EXt a) up us τ1 (uI (uR τ1 (1193 + a) 3 (.ref (1193 + c'))) (1193 + c') 4 z0) := by
            refine ⟨rfl, fun A hA => ?_, fun i hi => ⟨?_, rfl, fun j hj => ?_⟩, fun i hi => ⟨?_, fun j hj => ?_⟩⟩
            · rw [u_ne (by omega)]
              rfl
            · rw [u_ne (by omega)]
              rfl
            · unfold EXt at hj
              rw [xI2, xR3, if_neg hj]
            · rw [u_ne (by omega)]
              rfl
            · unfold EXt at hj
              rw [xI2, xR3, if_neg hj]
          have n3 : (uI (uR τ1 (1193 + a) 3 (.ref (1193 + c'))) (1193 + c') 4 z0).2.2.1 (1193 + c') 3 = .null := by
            rw [xI2, xR3, if_neg (by omega)]
            exact t7
          have n4 : (uI (uR τ1 (1193 + a) 3 (.ref (1193 + c'))) (1193 + c') 4 z0).1 (1193 + c') 4 = z0 := u_eq
          have na : (uI (uR τ1 (1193 + a) 3 (.ref (1193 + c'))) (1193 + c') 4 z0).2.2.1 (1193 + a) 3 = .ref (1193 + c') := by
            rw [xI2]
            exact rd
          generalize (uI (uR τ1 (1193 + a) 3 (.ref (1193 + c'))) (1193 + c') 4 z0) = σ2 at cc r2 x2 n3 n4 na ⊢
          have ih2 := ih kk z.1 u1 s1 (turn + 1) c' σ2 SM1 cc (Or.inl t5.2.2.1) (by omega) (by omega) (by omega) (by omega) n3
          cases hr : rdM b O n z.1 with
          | none =>
            obtain ⟨τ, v1, v2⟩ := ih2.1 hr
            have e : rdM b O (n + 1) p = none := by
              unfold rdM
              rw [if_pos c, hq]
              dsimp only
              rw [hr]
            rw [e, v1]
            exact ⟨fun _ => ⟨τ, rfl, (a1.z.t0 x2.z).t0 v2⟩, fun y hy => by cases hy⟩
          | some w =>
            obtain ⟨τ, u2, s2, SM2, v1, v2, v3, v4, v5, v6⟩ := ih2.2 w hr
            have e : rdM b O (n + 1) p = some (w.1, (decide (b.getD p 0 = 45), z.2) :: w.2) := by
              unfold rdM
              rw [if_pos c, hq]
              dsimp only
              rw [hr]
            rw [e, v1]
            refine ⟨fun hx => (by cases hx), fun y hy => ?_⟩
            injection hy with hy
            subst hy
            have y3 : rep b ns SM2 τ k c' z.2 up u1 us s1 := rep_X r2 v2 (fun i j i1 i2 q => ⟨by have := q.1; omega, q.2⟩) (fun i j i1 i2 q => by have := q.1; omega) v4
            refine ⟨τ, u2, s2, SM2, rfl, ?_, v3, fun j hj => by rw [v4 j (by omega), t4 j hj], ⟨by omega, by omega, v5.2.2.1, v5.2.2.2⟩, c', u1, s1, ?_, ?_, y3, v6⟩
            · refine ((a1.x (E := EXt a)).tr x2 (by omega) (by omega) (fun _ _ _ q => q) (fun _ _ _ q => q)).tr v2 (by omega) (by omega) (fun i j hi q => ?_) (fun i j hi q => ?_)
              · have := q.1
                omega
              · have := q.1
                omega
            · rw [(v2.2.2.1 a (by omega)).2.2 3 (fun q => by have := q.1; omega)]
              exact na
            · rw [(v2.2.2.1 c' (by omega)).1, n4]
              exact hz0
      by_cases c2 : b.getD p 0 = 45
      · rw [if_pos c2]
        exact key 1 (by rw [decide_eq_true c2]; rfl)
      · rw [if_neg c2]
        exact key 0 (by rw [decide_eq_false c2]; rfl)
    · have e : rdM b O (n + 1) p = some (p, []) := by
        unfold rdM
        rw [if_neg c]
      rw [if_neg (by rw [decide_eq_false c]; decide), e]
      refine ⟨fun hx => (by cases hx), fun y hy => ?_⟩
      injection hy with hy
      subst hy
      exact ⟨σ, up, us, SM, rfl, aqP.rf.x, h, fun _ _ => rfl, ⟨Nat.le_refl _, Nat.le_refl _, h1.elim id (fun q => absurd q.1 c), h2⟩, h6, Nat.le_refl _, Nat.le_refl _⟩
theorem f54_e (hF : 1000 ≤ F) (hb : b.length ≤ 120) (hO : gXr F b ns k g d O) (hg : gO ns b O) : gXr F b ns (k + 1) (f54 F g) d (rdU ns b O) := by
  intro σ p up us SM h hu hs
  have hp := h.2.2.2.2.1
  have x1 := hO σ p up us SM h hu hs
  have hgU := rdU_ok hb hg
  unfold f54
  cases hq : O p with
  | none =>
    obtain ⟨τ, t1, t2⟩ := x1.1 hq
    have e : rdU ns b O p = none := by
      unfold rdU
      rw [hq]
    rw [e, t1, cRt]
    exact ⟨fun _ => ⟨τ, rfl, t2⟩, fun y hy => by cases hy⟩
  | some z =>
    obtain ⟨τ1, c', u1, s1, SM1, t1, t2, t3, t4, t5, t6, t7, t8⟩ := x1.2 z hq
    obtain ⟨z1, z2, z3⟩ := hg _ _ hp hq
    have hcl := (rep_le t6).1
    have hu1 := t3.2.2.2.2.2.1
    have hs1 := t3.2.2.2.2.2.2.1
    rw [t1, cRo, if_pos (prt_f c' (by omega)), f59_e hb t3, cIo, ifb]
    by_cases c : b.getD z.1 0 = 43 ∨ b.getD z.1 0 = 45
    · have hl : z.1 < b.length := by
        rcases c with c | c
        · exact ch_lt c (by decide)
        · exact ch_lt c (by decide)
      have hu120 : u1 < 120 := by omega
      rw [if_pos (decide_eq_true c), f43_e t3 hu120, cRo, if_pos (prt_f u1 hu120), ltE]
      have f := nwP.f (σ := τ1) (up := u1) (s := 4)
      have cp : cQP b (uR (nwP τ1 u1 4) (1193 + u1) 1 (.ref (1193 + c'))) z.1 (u1 + 1) s1 := nwP.cp (s := 4) t3 hu120
      have ag : aqP u1 s1 τ1 (uR (nwP τ1 u1 4) (1193 + u1) 1 (.ref (1193 + c'))) := by
        refine (nwP.ag (s := 4) hu120 hs1).tr (u2 := u1) (s2 := s1) ⟨rfl, fun A hA => rfl, fun i hi => ⟨rfl, rfl, uR_ne (by omega)⟩, fun i hi => ⟨rfl, uR_ne (by omega)⟩⟩ (Nat.le_refl _) (Nat.le_refl _)
      have r1 : (uR (nwP τ1 u1 4) (1193 + u1) 1 (.ref (1193 + c'))).2.2.1 (1193 + u1) 1 = .ref (1193 + c') := by
        rw [xR3, if_pos ⟨rfl, rfl⟩]
      have r3 : (uR (nwP τ1 u1 4) (1193 + u1) 1 (.ref (1193 + c'))).2.2.1 (1193 + u1) 3 = .null := by
        rw [xR3, if_neg (by omega)]
        exact f.2.2.2.2.1
      have i0 : (uR (nwP τ1 u1 4) (1193 + u1) 1 (.ref (1193 + c'))).1 (1193 + u1) 0 = 4 := f.1
      have i4 : (uR (nwP τ1 u1 4) (1193 + u1) 1 (.ref (1193 + c'))).1 (1193 + u1) 4 = 0 := f.2.1
      generalize (uR (nwP τ1 u1 4) (1193 + u1) 1 (.ref (1193 + c'))) = σ2 at cp ag r1 r3 i0 i4 ⊢
      have nc : σ2.2.2.1 (1193 + c') 3 = .null := by
        rw [(ag.2.2.1 c' (by omega)).2.2]
        exact t7
      have lp := f54_29_e (S := u1) hb hO hg 130 (F - 130) z.1 (u1 + 1) s1 0 c' σ2 SM1 cp (Or.inr ⟨c, by omega⟩) (by omega) (by omega) (by omega) (by omega) nc
      rw [show F - 130 + 130 = F by omega] at lp
      rw [show (0 : Int32) = Int32.ofNat 0 from rfl]
      cases hr : rdM b O 130 z.1 with
      | none =>
        obtain ⟨τ, v1, v2⟩ := lp.1 hr
        have e : rdU ns b O p = none := by
          unfold rdU
          rw [hq]
          dsimp only
          rw [if_pos c, hr]
        rw [e, v1]
        exact ⟨fun _ => ⟨τ, rfl, (t2.z.t0 ag.z).t0 v2⟩, fun y hy => by cases hy⟩
      | some w =>
        obtain ⟨τ, u2, s2, SM2, v1, v2, v3, v4, v5, v6⟩ := lp.2 w hr
        have e : rdU ns b O p = some (w.1, smM ns ((false, z.2) :: w.2)) := by
          unfold rdU
          rw [hq]
          dsimp only
          rw [if_pos c, hr]
        have hev := (hgU p _ hp e).2.2
        rw [e, v1]
        refine ⟨fun hx => (by cases hx), fun y hy => ?_⟩
        injection hy with hy
        subst hy
        have x3 : aqX (EXt c') u1 s1 τ1 τ := (ag.x (E := EXt c')).tr v2 (by omega) (by omega) (fun _ _ _ q => q) (fun _ _ _ q => q)
        have y3 : rep b ns SM2 τ k c' z.2 up u1 us s1 := rep_X t6 x3 (fun i j i1 i2 q => ⟨by have := q.1; omega, q.2⟩) (fun i j i1 i2 q => by have := q.1; omega) v4
        have ai := v2.2.2.1 u1 (by omega)
        refine ⟨τ, u1, u2, s2, SM2, rfl, ?_, v3, fun j hj => by rw [v4 j (by omega), t4 j hj], ⟨by omega, by omega, v5.2.2.1, v5.2.2.2⟩, ⟨⟨by omega, by omega, by omega⟩, hev, Or.inr (Or.inr (Or.inr (Or.inr (Or.inl ⟨by rw [ai.1]; exact i0, c', z.2, w.2, s1, ?_, ?_, y3, v6, rfl⟩))))⟩, ?_, by rw [ai.1]; exact i4⟩
        · exact t2.tr (x3.p (u2 := up) (s2 := us) (fun i j hi q => by have := q.1; omega) (fun i j hi q => by have := q.1; omega) (by omega) (by omega)) (Nat.le_refl _) (Nat.le_refl _)
        · rw [ai.2.2 1 (fun q => by have := q.2; omega)]
          exact r1
        · rw [(x3.2.2.1 c' (by omega)).1]
          exact t8
        · rw [ai.2.2 3 (fun q => by have := q.1; omega)]
          exact r3
    · have e : rdU ns b O p = some z := by
        unfold rdU
        rw [hq]
        dsimp only
        rw [if_neg c]
      rw [if_neg (by rw [decide_eq_false c]; decide), e]
      refine ⟨fun hx => (by cases hx), fun y hy => ?_⟩
      injection hy with hy
      subst hy
      exact ⟨τ1, c', u1, s1, SM1, rfl, t2, t3, t4, t5, rep_up _ _ _ _ _ _ _ t6, t7, t8⟩
theorem f53_e (hF : 1000 ≤ F) (hb : b.length ≤ 120) (hO : gXr F b ns k g d O) (hg : gO ns b O) : gXr F b ns (k + 2) (f53 F g) d (rdX ns b O) := by
  intro σ p up us SM h hu hs
  have hp := h.2.2.2.2.1
  have hU := f54_e hF hb hO hg
  have hgU := rdU_ok hb hg
  have hgX := rdX_ok hb hg
  have x1 := hU σ p up us SM h hu hs
  unfold f53
  cases hq : rdU ns b O p with
  | none =>
    obtain ⟨τ, t1, t2⟩ := x1.1 hq
    have e : rdX ns b O p = none := by
      unfold rdX
      rw [hq]
    rw [e, t1, cRt]
    exact ⟨fun _ => ⟨τ, rfl, t2⟩, fun y hy => by cases hy⟩
  | some z =>
    obtain ⟨τ1, c', u1, s1, SM1, t1, t2, t3, t4, t5, t6, t7, t8⟩ := x1.2 z hq
    obtain ⟨z1, z2, z3⟩ := hgU _ _ hp hq
    have hcl := (rep_le t6).1
    have hu1 := t3.2.2.2.2.2.1
    have hs1 := t3.2.2.2.2.2.2.1
    obtain ⟨yy, k60⟩ := f60_e (F := F) hb t3
    rw [t1, cRo, if_pos (prt_f c' (by omega)), k60]
    cases hc : cmO b z.1 with
    | none =>
      have e : rdX ns b O p = none := by
        unfold rdX
        rw [hq]
        dsimp only
        rw [hc]
      rw [e]
      exact ⟨fun _ => ⟨_, rfl, t2.z.t0 aqP.mv⟩, fun y hy => by cases hy⟩
    | some w =>
      obtain ⟨w1, w2, w3⟩ := cmO_ok z2 hc
      show rtE b ns (k + 2) SM (cI (oI (sgO w.1) (uI τ1 1030 5 (Int32.ofNat w.2))) _) _ _ _ _
      rw [cIo]
      cases ho : w.1 with
      | none =>
        have hw2 : w.2 = z.1 := by
          unfold cmO at hc
          split at hc
          · injection hc with hc
            rw [← hc] at ho
            cases ho
          · split at hc
            · injection hc with hc
              rw [← hc] at ho
              cases ho
            · split at hc
              · injection hc with hc
                rw [← hc] at ho
                cases ho
              · split at hc
                · split at hc
                  · injection hc with hc
                    rw [← hc] at ho
                    cases ho
                  · cases hc
                · injection hc with hc
                  rw [← hc]
        have e : rdX ns b O p = some z := by
          unfold rdX
          rw [hq]
          dsimp only
          rw [hc]
          dsimp only
          rw [ho]
        rw [e, hw2, uI_same t3.2.1, if_pos (show sgO none = -1 from rfl)]
        refine ⟨fun hx => (by cases hx), fun y hy => ?_⟩
        injection hy with hy
        subst hy
        exact ⟨τ1, c', u1, s1, SM1, rfl, t2, t3, t4, t5, rep_up _ _ _ _ _ _ _ t6, t7, t8⟩
      | some o =>
        obtain ⟨o1, o2⟩ := w3 o ho
        have hu120 : u1 < 120 := by omega
        have cm := t3.mv w2
        rw [if_neg (show ¬ sgO (some o) = -1 from fun q => by
          have q2 := congrArg Int32.toInt q
          rw [show sgO (some o) = Int32.ofNat (8 + o) from rfl, oN_i (by omega)] at q2
          have : (-1 : Int32).toInt = -1 := rfl
          omega), f43_e cm hu120, cRo, if_pos (prt_f u1 hu120), ltE]
        have f := nwP.f (σ := uI τ1 1030 5 (Int32.ofNat w.2)) (up := u1) (s := sgO (some o))
        have cp : cQP b (uR (nwP (uI τ1 1030 5 (Int32.ofNat w.2)) u1 (sgO (some o))) (1193 + u1) 1 (.ref (1193 + c'))) w.2 (u1 + 1) s1 := nwP.cp (s := sgO (some o)) cm hu120
        have ag : aqP u1 s1 τ1 (uR (nwP (uI τ1 1030 5 (Int32.ofNat w.2)) u1 (sgO (some o))) (1193 + u1) 1 (.ref (1193 + c'))) := by
          refine ((aqP.mv (up := u1) (us := s1)).tr (nwP.ag (s := sgO (some o)) hu120 hs1) (Nat.le_refl _) (Nat.le_refl _)).tr (u2 := u1) (s2 := s1) ⟨rfl, fun A hA => rfl, fun i hi => ⟨rfl, rfl, uR_ne (by omega)⟩, fun i hi => ⟨rfl, uR_ne (by omega)⟩⟩ (Nat.le_refl _) (Nat.le_refl _)
        have r1 : (uR (nwP (uI τ1 1030 5 (Int32.ofNat w.2)) u1 (sgO (some o))) (1193 + u1) 1 (.ref (1193 + c'))).2.2.1 (1193 + u1) 1 = .ref (1193 + c') := by
          rw [xR3, if_pos ⟨rfl, rfl⟩]
        have r3 : (uR (nwP (uI τ1 1030 5 (Int32.ofNat w.2)) u1 (sgO (some o))) (1193 + u1) 1 (.ref (1193 + c'))).2.2.1 (1193 + u1) 3 = .null := by
          rw [xR3, if_neg (by omega)]
          exact f.2.2.2.2.1
        have i0 : (uR (nwP (uI τ1 1030 5 (Int32.ofNat w.2)) u1 (sgO (some o))) (1193 + u1) 1 (.ref (1193 + c'))).1 (1193 + u1) 0 = Int32.ofNat (8 + o) := f.1
        have i4 : (uR (nwP (uI τ1 1030 5 (Int32.ofNat w.2)) u1 (sgO (some o))) (1193 + u1) 1 (.ref (1193 + c'))).1 (1193 + u1) 4 = 0 := f.2.1
        generalize (uR (nwP (uI τ1 1030 5 (Int32.ofNat w.2)) u1 (sgO (some o))) (1193 + u1) 1 (.ref (1193 + c'))) = σ2 at cp ag r1 r3 i0 i4 ⊢
        have x2 := hU σ2 w.2 (u1 + 1) s1 SM1 cp (by omega) (by omega)
        cases hr : rdU ns b O w.2 with
        | none =>
          obtain ⟨τ, v1, v2⟩ := x2.1 hr
          have e : rdX ns b O p = none := by
            unfold rdX
            rw [hq]
            dsimp only
            rw [hc]
            dsimp only
            rw [ho]
            dsimp only
            rw [hr]
          rw [e, v1, cRt]
          exact ⟨fun _ => ⟨τ, rfl, (t2.z.t0 ag.z).t0 v2⟩, fun y hy => by cases hy⟩
        | some v =>
          obtain ⟨τ2, d', u2, s2, SM2, v1, v2, v3, v4, v5, v6, v7, v8⟩ := x2.2 v hr
          have hdl := (rep_le v6).1
          have hu2 := v3.2.2.2.2.2.1
          have hs2 := v3.2.2.2.2.2.2.1
          have e : rdX ns b O p = some (v.1, cmM ns o z.2 v.2) := by
            unfold rdX
            rw [hq]
            dsimp only
            rw [hc]
            dsimp only
            rw [ho]
            dsimp only
            rw [hr]
          have hev := (hgX p _ hp e).2.2
          rw [e, v1, cRo, if_pos (prt_f d' (by omega)), ltE]
          refine ⟨fun hx => (by cases hx), fun y hy => ?_⟩
          injection hy with hy
          subst hy
          have fin : ∀ uu ss, aqX (fun A j => A = 1193 + u1 ∧ j = 2) uu ss τ2 (uR τ2 (1193 + u1) 2 (.ref (1193 + d'))) := by
            intro uu ss
            refine ⟨rfl, fun _ _ => rfl, fun i hi => ⟨rfl, rfl, fun j hj => ?_⟩, fun i hi => ⟨rfl, fun j hj => ?_⟩⟩
            · rw [xR3, if_neg hj]
            · rw [xR3, if_neg hj]
          have a12 : aqX (fun A j => A = 1193 + u1 ∧ j = 2) u1 s1 τ1 (uR τ2 (1193 + u1) 2 (.ref (1193 + d'))) := ((ag.tr v2 (by omega) (by omega)).x (E := fun A j => A = 1193 + u1 ∧ j = 2)).tr (fin u1 s1) (by omega) (by omega) (fun _ _ _ q => q) (fun _ _ _ q => q)
          have y1 : rep b ns SM2 (uR τ2 (1193 + u1) 2 (.ref (1193 + d'))) (k + 1) c' z.2 up u1 us s1 := rep_X t6 a12 (fun i j i1 i2 q => by have := q.1; omega) (fun i j i1 i2 q => by have := q.1; omega) v4
          have y2 : rep b ns SM2 (uR τ2 (1193 + u1) 2 (.ref (1193 + d'))) (k + 1) d' v.2 (u1 + 1) u2 s1 s2 := rep_X v6 (fin u2 s2) (fun i j i1 i2 q => by have := q.1; omega) (fun i j i1 i2 q => by have := q.1; omega) (fun _ _ => rfl)
          have ai := v2.2.2.1 u1 (by omega)
          refine ⟨_, u1, u2, s2, SM2, rfl, ?_, v3, fun j hj => by rw [v4 j (by omega), t4 j hj], ⟨by omega, by omega, v5.2.2.1, v5.2.2.2⟩, ⟨⟨by omega, by omega, by omega⟩, hev, Or.inr (Or.inr (Or.inr (Or.inr (Or.inr (Or.inr (Or.inr (Or.inr ⟨o, o1, ?_, c', d', z.2, v.2, s1, ?_, ?_, y1, y2, rfl⟩)))))))⟩, ?_, ?_⟩
          · exact t2.tr (a12.p (u2 := up) (s2 := us) (fun i j hi q => by have := q.1; omega) (fun i j hi q => by have := q.1; omega) (by omega) (by omega)) (Nat.le_refl _) (Nat.le_refl _)
          · show τ2.1 (1193 + u1) 0 = _
            rw [ai.1]
            exact i0
          · rw [xR3, if_neg (by omega), ai.2.2]
            exact r1
          · rw [xR3, if_pos ⟨rfl, rfl⟩]
          · rw [xR3, if_neg (by omega), ai.2.2]
            exact r3
          · show τ2.1 (1193 + u1) 4 = _
            rw [ai.1]
            exact i4
end QSM
