/-! THE CLASS READS A PATH -/
def tlP (σ : St) (A H : Nat) : Prop := (σ.2.2.1 A 7 = .null ∧ H = A) ∨ (σ.2.2.1 A 7 = .ref H ∧ isO H 6 = true)
def EXp (A0 H A j : Nat) : Prop := (A = H ∧ j = 6) ∨ (A = A0 ∧ j = 7)
theorem f35_e {F A H S : Nat} {σ : St} (h : tlP σ A H) : f35 F A S σ = oV (uR (uR σ H 6 (.ref S)) A 7 (.ref S)) := by
  unfold f35
  rcases h with ⟨h1, h2⟩ | ⟨h1, h2⟩
  · rw [h1, mRn, ltE, ltE, h2]
  · rw [h1, mRr, if_pos h2, mRr, if_pos h2, ltE, ltE]
theorem app_P {A0 H up us : Nat} {σ : St} {x y : Value} : aqX (EXp A0 H) up us σ (uR (uR σ H 6 x) A0 7 y) := by
  refine ⟨rfl, fun _ _ => rfl, fun i hi => ⟨rfl, rfl, fun j hj => ?_⟩, fun i hi => ⟨rfl, fun j hj => ?_⟩⟩
  · rw [xR3, if_neg (fun q => hj (Or.inr q)), xR3, if_neg (fun q => hj (Or.inl q))]
  · rw [xR3, if_neg (fun q => hj (Or.inr q)), xR3, if_neg (fun q => hj (Or.inl q))]
section QP2
variable {F d k : Nat} {b : List Int32} {ns : List Nd} {g : Int32 → St → Rs} {E : Nat → Option (Nat × Ev)}
/-- the rest of a path from a step on -/
def rdB (ns : List Nd) (b : List Int32) (E : Nat → Option (Nat × Ev)) (n p : Nat) : Option (Nat × List Sm) := match rdS ns b E p with
  | none => none
  | some x => if b.getD x.1 0 = 47 then (match rdL ns b E n (x.1 + 1) with
      | none => none
      | some y => some (y.1, x.2 :: y.2))
    else some (x.1, [x.2])
theorem rdL_B {n p : Nat} : rdL ns b E (n + 1) p = match rdB ns b E n (dsP b p) with
    | none => none
    | some y => some (y.1, dsS ns b p y.2) := by
  unfold rdB
  show (match rdS ns b E (dsP b p) with | none => none | some x => _) = _
  cases rdS ns b E (dsP b p) with
  | none => rfl
  | some x =>
    show (if b.getD x.1 0 = 47 then (match rdL ns b E n (x.1 + 1) with | none => none | some y => some (y.1, dsS ns b p (x.2 :: y.2))) else some (x.1, dsS ns b p [x.2])) = _
    by_cases c : b.getD x.1 0 = 47
    · rw [if_pos c]
      dsimp only
      rw [if_pos c]
      cases rdL ns b E n (x.1 + 1) with
      | none => rfl
      | some y => rfl
    · rw [if_neg c]
      dsimp only
      rw [if_neg c]
/-- what a loop over steps leaves -/
def rtL (b : List Int32) (ns : List Nd) (k : Nat) (SM : Nat → Sm) (r : Rs) (σ : St) (a0 H up us : Nat) (x : Option (Nat × List Sm)) : Prop := (x = none → ∃ τ, r = oT 10 τ ∧ aqP 0 0 σ τ) ∧ ∀ y, x = some y → ∃ (τ : St) (u2 s2 : Nat) (SM' : Nat → Sm), r = some (.inl (some (.ref (1193 + a0))), τ) ∧ aqX (EXp (1193 + a0) H) up us σ τ ∧ cQP b τ y.1 u2 s2 ∧ (∀ i, i < us → SM' i = SM i) ∧ (up ≤ u2 ∧ us ≤ s2 ∧ u2 ≤ y.1 ∧ 3 * s2 ≤ 2 * y.1 + 2) ∧ sch (stR b ns SM' (rep b ns SM' τ k) τ) τ y.2 (τ.2.2.1 H 6) up u2 us s2
def hlP (a0 H up us : Nat) : Prop := H = 1193 + a0 ∨ ∃ i, i < us ∧ H = 1033 + 2 * i
theorem f42_78_e {n kk a0 : Nat} (hF : 1000 ≤ F) (hb : b.length ≤ 120) (hn : ns.length ≤ 32) (hd : d ≤ 4) (hE : d < 4 → gXr F b ns k (f53 F g) (d + 1) E) (hE4 : ¬ d < 4 → ∀ p, E p = none) (hgE : gE ns b E) (ih : ∀ (p up us turn H : Nat) (σ : St) (SM : Nat → Sm), cQP b σ p up us → up ≤ p + 1 → 3 * us ≤ 2 * p → a0 < up → 2 * turn ≤ p → b.length + 2 ≤ n + p → tlP σ (1193 + a0) H → hlP a0 H up us → σ.2.2.1 H 6 = .null → rtL b ns k SM (f42_51 F g (kk + n) (Int32.ofNat d) (1193 + a0) (Int32.ofNat turn) σ) σ a0 H up us (rdL ns b E n p)) {p up us turn H : Nat} {σ : St} {SM : Nat → Sm} (h : cQP b σ p up us) (hu : up ≤ p + 1) (hs : 3 * us ≤ 2 * p + 1) (ha : a0 < up) (ht : 2 * turn ≤ p) (hf : b.length ≤ n + p) (htl : tlP σ (1193 + a0) H) (hH : hlP a0 H up us) : rtL b ns k SM (f42_78 F g (f42_51 F g (kk + n)) (Int32.ofNat d) (1193 + a0) (Int32.ofNat turn) σ) σ a0 H up us (rdB ns b E n p) := by
  have x1 := f47_e (SM := SM) hF hb hd hE hE4 hgE h hu hs
  have hp := h.2.2.2.2.1
  unfold f42_78 rdB
  cases hq : rdS ns b E p with
  | none =>
    obtain ⟨τ, t1, t2⟩ := x1.1 hq
    rw [t1, cRt]
    exact ⟨fun _ => ⟨τ, rfl, t2⟩, fun y hy => by cases hy⟩
  | some z =>
    obtain ⟨τ1, u1, s1, SM1, t1, t2, t3, t4, t5, t6, t7⟩ := x1.2 z hq
    obtain ⟨z1, z2, z3⟩ := rdS_ok hn hgE hp hq
    have hu1 := t3.2.2.2.2.2.1
    have hs1 := t3.2.2.2.2.2.2.1
    have tl1 : tlP τ1 (1193 + a0) H := by
      unfold tlP
      rw [(t2.2.2.1 a0 ha).2.2]
      exact htl
    have hHne : ¬ H = 1033 + 2 * us := by
      rcases hH with g1 | ⟨i, g1, g2⟩ <;> omega
    have cc : cQP b (uR (uR τ1 H 6 (.ref (1033 + 2 * us))) (1193 + a0) 7 (.ref (1033 + 2 * us))) z.1 u1 s1 := t3
    have x2 : ∀ uu ss, aqX (EXp (1193 + a0) H) uu ss τ1 (uR (uR τ1 H 6 (.ref (1033 + 2 * us))) (1193 + a0) 7 (.ref (1033 + 2 * us))) := fun uu ss => app_P
    have nul : (uR (uR τ1 H 6 (.ref (1033 + 2 * us))) (1193 + a0) 7 (.ref (1033 + 2 * us))).2.2.1 (1033 + 2 * us) 6 = .null := by
      rw [xR3, if_neg (by omega), xR3, if_neg (by omega)]
      exact t7
    have hol : (uR (uR τ1 H 6 (.ref (1033 + 2 * us))) (1193 + a0) 7 (.ref (1033 + 2 * us))).2.2.1 H 6 = .ref (1033 + 2 * us) := by
      rw [xR3, if_neg (by omega), xR3, if_pos ⟨rfl, rfl⟩]
    have tl2 : tlP (uR (uR τ1 H 6 (.ref (1033 + 2 * us))) (1193 + a0) 7 (.ref (1033 + 2 * us))) (1193 + a0) (1033 + 2 * us) := Or.inr ⟨by rw [xR3, if_pos ⟨rfl, rfl⟩], (stp_f us (by omega)).2⟩
    rw [t1, cRo, if_pos (stp_f us (by omega)).2, f35_e tl1, cVo, f44_e hb cc]
    generalize (uR (uR τ1 H 6 (.ref (1033 + 2 * us))) (1193 + a0) 7 (.ref (1033 + 2 * us))) = σ2 at cc x2 nul hol tl2 ⊢
    have a12 : ∀ EE : Nat → Nat → Prop, aqX (EXp (1193 + a0) H) up us σ σ2 := fun _ => (t2.x (E := EXp (1193 + a0) H)).tr (x2 up us) (Nat.le_refl _) (Nat.le_refl _) (fun _ _ _ q => q) (fun _ _ _ q => q)
    dsimp only
    by_cases c : b.getD z.1 0 = 47
    · have hl := ch_lt c (by decide)
      rw [if_pos c, if_pos c, cIo, if_neg (show ¬ (1 : Int32) = 0 by decide), oN_p1]
      have i2 := ih (z.1 + 1) u1 s1 (turn + 1) (1033 + 2 * us) (uI σ2 1030 5 (Int32.ofNat (z.1 + 1))) SM1 (cc.mv (by omega)) (by omega) (by omega) (by omega) (by omega) (by omega) tl2 (Or.inr ⟨us, by omega, rfl⟩) nul
      have x3 : ∀ uu ss, aqX (EXp (1193 + a0) H) uu ss τ1 (uI σ2 1030 5 (Int32.ofNat (z.1 + 1))) := fun uu ss => (x2 uu ss).tr (E' := fun _ _ => False) (u2 := uu) (s2 := ss) ((aqP.mv).x) (Nat.le_refl _) (Nat.le_refl _) (fun _ _ _ q => q.elim) (fun _ _ _ q => q.elim)
      have hol3 : (uI σ2 1030 5 (Int32.ofNat (z.1 + 1))).2.2.1 H 6 = .ref (1033 + 2 * us) := hol
      cases hr : rdL ns b E n (z.1 + 1) with
      | none =>
        obtain ⟨τ, v1, v2⟩ := i2.1 hr
        rw [v1]
        exact ⟨fun _ => ⟨τ, rfl, (t2.z.t0 (x3 0 0).z).t0 v2⟩, fun y hy => by cases hy⟩
      | some w =>
        obtain ⟨τ, u2, s2, SM2, v1, v2, v3, v4, v5, v6⟩ := i2.2 w hr
        rw [v1]
        refine ⟨fun hx => (by cases hx), fun y hy => ?_⟩
        injection hy with hy
        subst hy
        have y2 : τ.2.2.1 H 6 = .ref (1033 + 2 * us) := by
          rw [← hol3]
          rcases hH with g1 | ⟨i, g1, g2⟩
          · rw [g1]
            exact (v2.2.2.1 a0 (by omega)).2.2 6 (fun q => by rcases q with q | q <;> omega)
          · rw [g2]
            exact (v2.2.2.2 i (by omega)).2 6 (fun q => by rcases q with q | q <;> omega)
        have y3 : stR b ns SM2 (rep b ns SM2 τ k) τ us z.2 up u1 us s1 := by
          refine stR_X (E := fun A j => EXp (1193 + a0) H A j ∨ EXp (1193 + a0) (1033 + 2 * us) A j) t6 (((x3 u1 s1).mono (fun A j q => Or.inl q)).tr v2 (Nat.le_refl _) (Nat.le_refl _) (fun _ _ _ q => Or.inr q) (fun _ _ _ q => Or.inr q)) (fun i j i1 i2 q => ?_) (fun i j i1 i2 q => ?_) v4
          · rcases q with (q | q) | (q | q)
            · rcases hH with g1 | ⟨i, g1, g2⟩ <;> omega
            · omega
            · omega
            · omega
          · rcases q with (q | q) | (q | q)
            · exfalso
              rcases hH with g1 | ⟨i, g1, g2⟩ <;> omega
            · omega
            · omega
            · omega
        refine ⟨τ, u2, s2, SM2, rfl, ?_, v3, fun j hj => by rw [v4 j (by omega), t4 j hj], ⟨by omega, by omega, v5.2.2.1, v5.2.2.2⟩, us, u1, s1, y2, y3, v6⟩
        refine ((t2.x (E := EXp (1193 + a0) H)).tr (x3 u1 s1) (by omega) (by omega) (fun _ _ _ q => q) (fun _ _ _ q => q)).tr v2 (by omega) (by omega) (fun i j hi q => ?_) (fun i j hi q => ?_)
        · rcases q with q | q
          · omega
          · exact Or.inr q
        · rcases q with q | q
          · omega
          · exact Or.inr q
    · rw [if_neg c, if_neg c, cIo, if_pos rfl]
      refine ⟨fun hx => (by cases hx), fun y hy => ?_⟩
      injection hy with hy
      subst hy
      have y3 : stR b ns SM1 (rep b ns SM1 σ2 k) σ2 us z.2 up u1 us s1 := by
        refine stR_X (E := EXp (1193 + a0) H) t6 (x2 u1 s1) (fun i j i1 i2 q => ?_) (fun i j i1 i2 q => ?_) (fun _ _ => rfl)
        · rcases q with q | q
          · rcases hH with g1 | ⟨i, g1, g2⟩ <;> omega
          · omega
        · rcases q with q | q
          · exfalso
            rcases hH with g1 | ⟨i, g1, g2⟩ <;> omega
          · omega
      exact ⟨σ2, u1, s1, SM1, rfl, a12 (fun _ _ => False), cc, t4, ⟨t5.1, by omega, t5.2.2.1, t5.2.2.2⟩, us, u1, s1, hol, y3, nul, Nat.le_refl _, Nat.le_refl _⟩
theorem f42_51_e {a0 : Nat} (hF : 1000 ≤ F) (hb : b.length ≤ 120) (hn : ns.length ≤ 32) (hd : d ≤ 4) (hE : d < 4 → gXr F b ns k (f53 F g) (d + 1) E) (hE4 : ¬ d < 4 → ∀ p, E p = none) (hgE : gE ns b E) (kk : Nat) : ∀ (n p up us turn H : Nat) (σ : St) (SM : Nat → Sm), cQP b σ p up us → up ≤ p + 1 → 3 * us ≤ 2 * p → a0 < up → 2 * turn ≤ p → b.length + 2 ≤ n + p → tlP σ (1193 + a0) H → hlP a0 H up us → σ.2.2.1 H 6 = .null → rtL b ns k SM (f42_51 F g (kk + n) (Int32.ofNat d) (1193 + a0) (Int32.ofNat turn) σ) σ a0 H up us (rdL ns b E n p) := by
  intro n
  induction n with
  | zero =>
    intro p up us turn H σ SM h h1 h2 h3 h4 h5
    have := h.2.2.2.2.1
    omega
  | succ n ih =>
    intro p up us turn H σ SM h h1 h2 h3 h4 h5 h6 h7 h8
    have hp := h.2.2.2.2.1
    have hup := h.2.2.2.2.2.1
    rw [show kk + (n + 1) = (kk + n) + 1 by omega, f42_51.eq_2, if_pos (show Int32.ofNat turn < 120 from (oN_lt (q := 120) (by omega) (by decide)).mpr (by omega)), f44_e hb h, rdL_B]
    unfold dsP dsS
    by_cases c : b.getD p 0 = 47
    · have hl := ch_lt c (by decide)
      have hus : us < 80 := by omega
      have hm := h.mv (q := p + 1) (by omega)
      rw [if_pos c, if_pos c, cIo, if_neg (show ¬ (1 : Int32) = 0 by decide), f46_e hm hus, cRo, if_pos (stp_f us hus).2]
      have f := nwS.f (σ := uI σ 1030 5 (Int32.ofNat (p + 1))) (us := us) (a := 10) (t := 4)
      have f6 : (nwS (uI σ 1030 5 (Int32.ofNat (p + 1))) us 110 4).2.2.1 (1033 + 2 * us) 6 = .null := f.2.2.2
      have cp := nwS.cp (a := 110) (t := 4) hm hus
      have ag : aqP up us σ (nwS (uI σ 1030 5 (Int32.ofNat (p + 1))) us 110 4) := (aqP.mv (up := up) (us := us)).tr (nwS.ag hus) (Nat.le_refl _) (Nat.le_refl _)
      have sd : stR b ns (upS SM us (stpM ns b 10 4 0 0 [])) (rep b ns (upS SM us (stpM ns b 10 4 0 0 [])) (nwS (uI σ 1030 5 (Int32.ofNat (p + 1))) us 110 4) k) (nwS (uI σ 1030 5 (Int32.ofNat (p + 1))) us 110 4) us (stpM ns b 10 4 0 0 []) up up us (us + 1) := stR_dot (a := 10) (by decide)
      generalize nwS (uI σ 1030 5 (Int32.ofNat (p + 1))) us 110 4 = τ1 at f6 cp ag sd ⊢
      have tl1 : tlP τ1 (1193 + a0) H := by
        unfold tlP
        rw [(ag.2.2.1 a0 h3).2.2]
        exact h6
      have hHne : ¬ H = 1033 + 2 * us := by
        rcases h7 with g1 | ⟨i, g1, g2⟩ <;> omega
      have cc : cQP b (uR (uR τ1 H 6 (.ref (1033 + 2 * us))) (1193 + a0) 7 (.ref (1033 + 2 * us))) (p + 1) up (us + 1) := cp
      have x2 : ∀ uu ss, aqX (EXp (1193 + a0) H) uu ss τ1 (uR (uR τ1 H 6 (.ref (1033 + 2 * us))) (1193 + a0) 7 (.ref (1033 + 2 * us))) := fun uu ss => app_P
      have hol : (uR (uR τ1 H 6 (.ref (1033 + 2 * us))) (1193 + a0) 7 (.ref (1033 + 2 * us))).2.2.1 H 6 = .ref (1033 + 2 * us) := by
        rw [xR3, if_neg (by omega), xR3, if_pos ⟨rfl, rfl⟩]
      have tl2 : tlP (uR (uR τ1 H 6 (.ref (1033 + 2 * us))) (1193 + a0) 7 (.ref (1033 + 2 * us))) (1193 + a0) (1033 + 2 * us) := Or.inr ⟨by rw [xR3, if_pos ⟨rfl, rfl⟩], (stp_f us (by omega)).2⟩
      rw [f35_e tl1, cVo]
      generalize (uR (uR τ1 H 6 (.ref (1033 + 2 * us))) (1193 + a0) 7 (.ref (1033 + 2 * us))) = σ2 at cc x2 hol tl2 ⊢
      have i2 := f42_78_e (turn := turn) (SM := upS SM us (stpM ns b 10 4 0 0 [])) hF hb hn hd hE hE4 hgE ih cc (by omega) (by omega) h3 (by omega) (by omega) tl2 (Or.inr ⟨us, by omega, rfl⟩)
      cases hr : rdB ns b E n (p + 1) with
      | none =>
        obtain ⟨τ, v1, v2⟩ := i2.1 hr
        rw [v1]
        exact ⟨fun _ => ⟨τ, rfl, (ag.z.t0 (x2 0 0).z).t0 v2⟩, fun y hy => by cases hy⟩
      | some w =>
        obtain ⟨τ, u2, s2, SM2, v1, v2, v3, v4, v5, v6⟩ := i2.2 w hr
        rw [v1]
        refine ⟨fun hx => (by cases hx), fun y hy => ?_⟩
        dsimp only at hy
        rw [if_pos c] at hy
        injection hy with hy
        subst hy
        have y2 : τ.2.2.1 H 6 = .ref (1033 + 2 * us) := by
          rw [← hol]
          rcases h7 with g1 | ⟨i, g1, g2⟩
          · rw [g1]
            exact (v2.2.2.1 a0 (by omega)).2.2 6 (fun q => by rcases q with q | q <;> omega)
          · rw [g2]
            exact (v2.2.2.2 i (by omega)).2 6 (fun q => by rcases q with q | q <;> omega)
        have y3 : stR b ns SM2 (rep b ns SM2 τ k) τ us (stpM ns b 10 4 0 0 []) up up us (us + 1) := by
          refine stR_X (E := fun A j => EXp (1193 + a0) H A j ∨ EXp (1193 + a0) (1033 + 2 * us) A j) sd (((x2 up (us + 1)).mono (fun A j q => Or.inl q)).tr v2 (Nat.le_refl _) (Nat.le_refl _) (fun _ _ _ q => Or.inr q) (fun _ _ _ q => Or.inr q)) (fun i j i1 i2 q => ?_) (fun i j i1 i2 q => ?_) v4
          · omega
          · rcases q with (q | q) | (q | q)
            · exfalso
              rcases h7 with g1 | ⟨i, g1, g2⟩ <;> omega
            · omega
            · omega
            · omega
        refine ⟨τ, u2, s2, SM2, rfl, ?_, v3, fun j hj => ?_, ⟨v5.1, by omega, v5.2.2.1, v5.2.2.2⟩, us, up, us + 1, y2, y3, v6⟩
        · refine ((ag.x (E := EXp (1193 + a0) H)).tr (x2 up us) (by omega) (by omega) (fun _ _ _ q => q) (fun _ _ _ q => q)).tr v2 (by omega) (by omega) (fun i j hi q => ?_) (fun i j hi q => ?_)
          · rcases q with q | q
            · omega
            · exact Or.inr q
          · rcases q with q | q
            · omega
            · exact Or.inr q
        · rw [v4 j (by omega)]
          exact if_neg (by omega)
    · rw [if_neg c, if_neg c, cIo, if_pos rfl]
      have i2 := f42_78_e (turn := turn) (SM := SM) hF hb hn hd hE hE4 hgE ih h (by omega) (by omega) h3 (by omega) (by omega) h6 h7
      cases hr : rdB ns b E n p with
      | none =>
        rw [hr] at i2
        exact i2
      | some w =>
        rw [hr] at i2
        dsimp only
        rw [if_neg c]
        exact i2
end QP2
