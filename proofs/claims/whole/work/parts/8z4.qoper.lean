/-! THE CLASS READS OPERANDS, and so whole paths at every level -/
section QOP
variable {F d k : Nat} {b : List Int32} {ns : List Nd} {g : Int32 → St → Rs}
theorem rep_mono {SM : Nat → Sm} {σ : St} {k : Nat} : ∀ (m : Nat) {a lo hi sl sh : Nat} {e : Ev}, rep b ns SM σ k a e lo hi sl sh → rep b ns SM σ (k + m) a e lo hi sl sh
  | 0, _, _, _, _, _, _, h => h
  | m + 1, _, _, _, _, _, _, h => rep_up _ _ _ _ _ _ _ (rep_mono m h)
theorem ptR_mono {SM : Nat → Sm} {σ : St} {k : Nat} : ∀ (m : Nat) {a lo hi sl sh : Nat} {q : Sm}, ptR b ns SM (rep b ns SM σ k) σ a q lo hi sl sh → ptR b ns SM (rep b ns SM σ (k + m)) σ a q lo hi sl sh
  | 0, _, _, _, _, _, _, h => h
  | m + 1, _, _, _, _, _, _, h => ptR_up (fun _ _ _ _ _ _ => rep_up _ _ _ _ _ _ _) (ptR_mono m h)
theorem gPr.up {P : Nat → Option (Nat × Sm)} {f : Int32 → St → Rs} (m : Nat) (h : gPr b ns k f d P) : gPr b ns (k + m) f d P := by
  intro σ p up us SM h1 h2 h3
  obtain ⟨a, c⟩ := h σ p up us SM h1 h2 h3
  refine ⟨a, fun y hy => ?_⟩
  obtain ⟨τ, u2, s2, SM', t1, t2, t3, t4, t5, t6, t7⟩ := c y hy
  exact ⟨τ, u2, s2, SM', t1, t2, t3, t4, t5, ptR_mono m t6, t7⟩
theorem f55_e {P P' : Nat → Option (Nat × Sm)} {E' : Nat → Option (Nat × Ev)} (hF : 1000 ≤ F) (hb : b.length ≤ 120) (ho : okB b) (hd : d ≤ 4) (hP : gPr b ns k (f42 F g) d P) (hgP : gP ns b P) (hP' : d < 4 → gPr b ns k (f42 F g) (d + 1) P') (hP4 : ¬ d < 4 → ∀ p, P' p = none) (hgP' : gP ns b P') (hE' : d < 4 → gXr F b ns k (f53 F g) (d + 1) E') (hE4 : ¬ d < 4 → ∀ p, E' p = none) (hgE' : gE ns b E') (hg : gO ns b (rdO ns b P P' E')) : gXr F b ns (k + 1) (f55 F g) d (rdO ns b P P' E') := by
  intro σ p up us SM h hu hs
  have hp := h.2.2.2.2.1
  have h7 := h.2.2.2.2.2.2.1
  have n1 := nmE_ge (b := b) (p := p)
  have n2 := nmE_le hp
  unfold f55
  rw [ltE, h.ch hb, cIo, f23_e, cIo, ifb]
  by_cases c1 : isDig (b.getD p 0) = true
  · have e : rdO ns b P P' E' p = rdN b p := by
      unfold rdO
      rw [if_pos c1]
    have x := f56_e (F := F) (k := k) (ns := ns) (SM := SM) (by omega) hb h hu hs c1 (fun y hy => (hg p y hp (by rw [e]; exact hy)).2.2.1)
    rw [if_pos c1, e]
    refine ⟨fun q => (by cases q), fun y hy => ?_⟩
    obtain ⟨τ, a, u2, s2, SM', t1, t2, t3, t4, t5, t6, t7, t8⟩ := x.2 y hy
    have r := (rep_le t6).1
    have := t3.2.2.2.2.2.1
    rw [t1, cRo, if_pos (prt_f a (by omega))]
    exact ⟨τ, a, u2, s2, SM', rfl, t2, t3, t4, t5, t6, t7, t8⟩
  · rw [if_neg c1, ltE, h.ch hb, cIo]
    by_cases c2 : b.getD p 0 = 39
    · have e : rdO ns b P P' E' p = rdT1 b p := by
        unfold rdO
        rw [if_neg c1, if_pos c2]
      have x := f57_e (F := F) (k := k) (ns := ns) (SM := SM) (by omega) hb ho h hu hs c2 (fun y hy => (hg p y hp (by rw [e]; exact hy)).2.2.1)
      rw [if_pos c2, e]
      refine ⟨fun q => ?_, fun y hy => ?_⟩
      · obtain ⟨τ, t1, t2⟩ := x.1 q
        rw [t1, cRt]
        exact ⟨τ, rfl, t2⟩
      · obtain ⟨τ, a, u2, s2, SM', t1, t2, t3, t4, t5, t6, t7, t8⟩ := x.2 y hy
        have r := (rep_le t6).1
        have := t3.2.2.2.2.2.1
        rw [t1, cRo, if_pos (prt_f a (by omega))]
        exact ⟨τ, a, u2, s2, SM', rfl, t2, t3, t4, t5, t6, t7, t8⟩
    · rw [if_neg c2, ltE, h.2.1, f96_e (by omega) hb h.1 (by omega), cIo]
      -- a path
      have pth : ∀ y2 : Int32, rdO ns b P P' E' p = asE (P p) → rtE b ns (k + 1) SM (f55_86 F g (Int32.ofNat d) y2 (-1) σ) σ up us (rdO ns b P P' E' p) := by
        intro y2 e
        have x := hP σ p up us SM h hu hs
        unfold f55_86
        rw [if_pos rfl]
        cases hq : P p with
        | none =>
          obtain ⟨τ, t1, t2⟩ := x.1 hq
          rw [t1, cRt, e, hq]
          exact ⟨fun _ => ⟨τ, rfl, t2⟩, fun y hy => by cases hy⟩
        | some z =>
          obtain ⟨τ, u2, s2, SM', t1, t2, t3, t4, t5, t6, t7, t8⟩ := x.2 z hq
          have := t3.2.2.2.2.2.1
          have e2 : rdO ns b P P' E' p = some (z.1, ptM z.2) := by
            rw [e, hq]
            rfl
          have hev := (hg p _ hp e2).2.2.1
          rw [t1, cRo, if_pos (prt_f up (by omega)), e2]
          refine ⟨fun q => (by cases q), fun y hy => ?_⟩
          injection hy with hy
          subst hy
          exact ⟨τ, up, u2, s2, SM', rfl, t2, t3, t4, ⟨by omega, t5.2.1, t5.2.2.1, t5.2.2.2⟩, ⟨⟨Nat.le_refl _, t5.1, t5.2.1⟩, hev, Or.inr (Or.inr (Or.inr (Or.inr (Or.inr (Or.inr (Or.inl ⟨z.2, t6, rfl⟩))))))⟩, t7, t8⟩
      by_cases c3 : nmE b p = p
      · have e : rdO ns b P P' E' p = asE (P p) := by
          unfold rdO
          rw [if_neg c1, if_neg c2, if_neg (fun q => q.1 c3)]
        rw [if_neg (show ¬ 0 < Int32.ofNat (nmE b p - p) from fun q => by have := (oN_lt (p := 0) (by decide) (by omega)).mp q; omega)]
        exact pth _ e
      · rw [if_pos (show 0 < Int32.ofNat (nmE b p - p) from (oN_lt (p := 0) (by decide) (by omega)).mpr (by omega)), ltE, h.2.1, oN_ad, show p + (nmE b p - p) = nmE b p by omega, f92_e h.1 hb (by omega), cIo]
        by_cases c4 : b.getD (nmE b p) 0 = 40
        · have hl := ch_lt c4 (by decide)
          rw [if_pos c4, f58_e (by omega) hb h, cIo]
          by_cases c5 : fnW (nmW b p) = 0
          · have e : rdO ns b P P' E' p = asE (P p) := by
              unfold rdO
              rw [if_neg c1, if_neg c2, if_pos ⟨c3, c4⟩, c5, if_neg (by decide), if_neg (by decide), if_neg (by decide), if_neg (by decide)]
            rw [if_pos c5]
            exact pth _ e
          · rw [if_neg c5]
            have hw : fnW (nmW b p) = 1 ∨ fnW (nmW b p) = 2 ∨ fnW (nmW b p) = 3 ∨ fnW (nmW b p) = 7 := by
              unfold fnW at c5 ⊢
              split
              · exact Or.inl rfl
              · split
                · exact Or.inr (Or.inl rfl)
                · split
                  · exact Or.inr (Or.inr (Or.inl rfl))
                  · split
                    · exact Or.inr (Or.inr (Or.inr rfl))
                    · next q1 q2 q3 q4 =>
                      rw [if_neg q1, if_neg q2, if_neg q3, if_neg q4] at c5
                      exact absurd rfl c5
            have hw7 : fnW (nmW b p) < 8 := by omega
            have hup : up < 120 := by omega
            have cm := h.mv (q := nmE b p + 1) (by omega)
            unfold f55_86
            rw [if_neg (show ¬ Int32.ofNat (fnW (nmW b p)) = -1 from fun q => by
              have q2 := congrArg Int32.toInt q
              rw [oN_i (by omega)] at q2
              have : (-1 : Int32).toInt = -1 := rfl
              omega), ltE, h.2.1, oN_p1, oN_ad, show p + (nmE b p - p + 1) = nmE b p + 1 by omega, ltE, f43_e cm hup, cRo, if_pos (prt_f up hup)]
            have f := nwP.f (σ := uI σ 1030 5 (Int32.ofNat (nmE b p + 1))) (up := up) (s := Int32.ofNat (fnW (nmW b p)))
            have cp := nwP.cp (s := Int32.ofNat (fnW (nmW b p))) cm hup
            have ag : aqP up us σ (nwP (uI σ 1030 5 (Int32.ofNat (nmE b p + 1))) up (Int32.ofNat (fnW (nmW b p)))) := (aqP.mv (up := up) (us := us)).tr (nwP.ag hup h7) (Nat.le_refl _) (Nat.le_refl _)
            generalize (nwP (uI σ 1030 5 (Int32.ofNat (nmE b p + 1))) up (Int32.ofNat (fnW (nmW b p)))) = τ1 at f cp ag ⊢
            obtain ⟨f0, f4, f5, f8, f3, f6, f7⟩ := f
            have eO : rdO ns b P P' E' p = (if fnW (nmW b p) = 1 then (if b.getD (nmE b p + 1) 0 = 41 then some (nmE b p + 2, fun (_ x _ : Nat) => vN (some (x : Int))) else none)
                else if fnW (nmW b p) = 2 then (if b.getD (nmE b p + 1) 0 = 41 then some (nmE b p + 2, fun (_ _ x : Nat) => vN (some (x : Int))) else none)
                else if fnW (nmW b p) = 3 then (match P' (nmE b p + 1) with
                  | none => none
                  | some x => if b.getD x.1 0 = 41 then some (x.1 + 1, ctM ns x.2) else none)
                else if fnW (nmW b p) = 7 then (match E' (nmE b p + 1) with
                  | none => none
                  | some x => if b.getD x.1 0 = 41 then some (x.1 + 1, ntM x.2) else none)
                else asE (P p)) := by
              unfold rdO
              rw [if_neg c1, if_neg c2, if_pos ⟨c3, c4⟩]
              rfl
            rcases hw with hw | hw | hw | hw
            · rw [hw] at f0 ⊢
              rw [hw, if_pos rfl] at eO
              rw [if_neg (by decide), if_neg (by decide), f50_e hb cp]
              by_cases c6 : b.getD (nmE b p + 1) 0 = 41
              · have hl6 := ch_lt c6 (by decide)
                rw [if_pos c6] at eO
                have hev := (hg p _ hp eO).2.2.1
                rw [if_pos c6, cVo, eO]
                refine ⟨fun q => (by cases q), fun y hy => ?_⟩
                injection hy with hy
                subst hy
                exact ⟨_, up, up + 1, us, SM, rfl, ag.tr (aqP.mv (up := up) (us := us)) (Nat.le_refl _) (Nat.le_refl _), cp.mv (by omega), fun _ _ => rfl, ⟨by omega, Nat.le_refl _, by show up + 1 ≤ nmE b p + 2; omega, by show 3 * us ≤ 2 * (nmE b p + 2) + 2; omega⟩, ⟨⟨Nat.le_refl _, by omega, Nat.le_refl _⟩, hev, Or.inr (Or.inl ⟨by rw [u_ne (by omega)]; exact f0, rfl, rfl⟩)⟩, f3, by rw [u_ne (by omega)]; exact f4⟩
              · rw [if_neg c6] at eO
                rw [if_neg c6, cVt, eO]
                exact ⟨fun _ => ⟨_, rfl, ag.z⟩, fun y hy => by cases hy⟩
            · rw [hw] at f0 ⊢
              rw [hw, if_neg (by decide), if_pos rfl] at eO
              rw [if_neg (by decide), if_neg (by decide), f50_e hb cp]
              by_cases c6 : b.getD (nmE b p + 1) 0 = 41
              · have hl6 := ch_lt c6 (by decide)
                rw [if_pos c6] at eO
                have hev := (hg p _ hp eO).2.2.1
                rw [if_pos c6, cVo, eO]
                refine ⟨fun q => (by cases q), fun y hy => ?_⟩
                injection hy with hy
                subst hy
                exact ⟨_, up, up + 1, us, SM, rfl, ag.tr (aqP.mv (up := up) (us := us)) (Nat.le_refl _) (Nat.le_refl _), cp.mv (by omega), fun _ _ => rfl, ⟨by omega, Nat.le_refl _, by show up + 1 ≤ nmE b p + 2; omega, by show 3 * us ≤ 2 * (nmE b p + 2) + 2; omega⟩, ⟨⟨Nat.le_refl _, by omega, Nat.le_refl _⟩, hev, Or.inr (Or.inr (Or.inl ⟨by rw [u_ne (by omega)]; exact f0, rfl, rfl⟩))⟩, f3, by rw [u_ne (by omega)]; exact f4⟩
              · rw [if_neg c6] at eO
                rw [if_neg c6, cVt, eO]
                exact ⟨fun _ => ⟨_, rfl, ag.z⟩, fun y hy => by cases hy⟩
            · rw [hw] at f0 ⊢
              rw [hw, if_neg (by decide), if_neg (by decide), if_pos rfl] at eO
              rw [if_pos (by decide), f52_e hd]
              by_cases c6 : d < 4
              · rw [if_pos c6, cIo]
                have x := hP' c6 τ1 (nmE b p + 1) (up + 1) us SM cp (by omega) (by omega)
                cases hq : P' (nmE b p + 1) with
                | none =>
                  obtain ⟨τ, t1, t2⟩ := x.1 hq
                  rw [hq] at eO
                  rw [t1, cRt, eO]
                  exact ⟨fun _ => ⟨τ, rfl, ag.z.t0 t2⟩, fun y hy => by cases hy⟩
                | some z =>
                  obtain ⟨τ, u2, s2, SM', t1, t2, t3, t4, t5, t6, t7, t8⟩ := x.2 z hq
                  obtain ⟨z1, z2, z3⟩ := hgP' _ _ (by omega) hq
                  have hu2 := t3.2.2.2.2.2.1
                  have hs2 := t3.2.2.2.2.2.2.1
                  rw [hq] at eO
                  dsimp only at eO
                  have cc : cQP b (uR τ (1193 + up) 1 (.ref (1193 + (up + 1)))) z.1 u2 s2 := t3
                  have ai := t2.2.2.1 up (by omega)
                  rw [t1, cRo, if_pos (prt_f (up + 1) (by omega)), ltE, f50_e hb cc]
                  have fin : ∀ uu ss, aqX (fun A j => A = 1193 + up ∧ j = 1) uu ss τ (uR τ (1193 + up) 1 (.ref (1193 + (up + 1)))) := by
                    intro uu ss
                    refine ⟨rfl, fun _ _ => rfl, fun i hi => ⟨rfl, rfl, fun j hj => ?_⟩, fun i hi => ⟨rfl, fun j hj => ?_⟩⟩
                    · rw [xR3, if_neg hj]
                    · rw [xR3, if_neg hj]
                  by_cases c7 : b.getD z.1 0 = 41
                  · have hl7 := ch_lt c7 (by decide)
                    rw [if_pos c7] at eO
                    have hev := (hg p _ hp eO).2.2.1
                    rw [if_pos c7, cVo, eO]
                    refine ⟨fun q => (by cases q), fun y hy => ?_⟩
                    injection hy with hy
                    subst hy
                    have fin2 : aqX (fun A j => A = 1193 + up ∧ j = 1) u2 s2 τ (uI (uR τ (1193 + up) 1 (.ref (1193 + (up + 1)))) 1030 5 (Int32.ofNat (z.1 + 1))) := (fin u2 s2).tr (E' := fun _ _ => False) (u2 := u2) (s2 := s2) ((aqP.mv).x) (Nat.le_refl _) (Nat.le_refl _) (fun _ _ _ q => q.elim) (fun _ _ _ q => q.elim)
                    have y1 : ptR b ns SM' (rep b ns SM' (uI (uR τ (1193 + up) 1 (.ref (1193 + (up + 1)))) 1030 5 (Int32.ofNat (z.1 + 1))) k) (uI (uR τ (1193 + up) 1 (.ref (1193 + (up + 1)))) 1030 5 (Int32.ofNat (z.1 + 1))) (up + 1) z.2 (up + 1) u2 us s2 := ptR_fr (rep_fr k) t6 (fin2.R (by omega) (fun j _ q => by have := q.1; omega)) (fun i i1 i2 _ => fin2.P i2 (fun j q => by have := q.1; omega)) (fun i i1 i2 => fin2.S i2 (fun j q => by have := q.1; omega) rfl)
                    refine ⟨_, up, u2, s2, SM', rfl, ?_, cc.mv (by omega), t4, ⟨by omega, t5.2.1, by show u2 ≤ z.1 + 1; omega, by show 3 * s2 ≤ 2 * (z.1 + 1) + 2; omega⟩, ⟨⟨Nat.le_refl _, by omega, t5.2.1⟩, hev, Or.inr (Or.inr (Or.inr (Or.inl ⟨?_, rfl, up + 1, z.2, ?_, y1, z3, rfl⟩)))⟩, ?_, ?_⟩
                    · exact (ag.tr (t2.wk (by omega) (Nat.le_refl _)) (Nat.le_refl _) (Nat.le_refl _)).tr (fin2.p (u2 := up) (s2 := us) (fun i j hi q => by have := q.1; omega) (fun i j hi q => by have := q.1; omega) (by omega) (by omega)) (Nat.le_refl _) (Nat.le_refl _)
                    · rw [u_ne (by omega)]
                      show τ.1 (1193 + up) 0 = _
                      rw [ai.1]
                      exact f0
                    · rw [xI2, xR3, if_pos ⟨rfl, rfl⟩]
                    · rw [xI2, xR3, if_neg (by omega), ai.2.2]
                      exact f3
                    · rw [u_ne (by omega)]
                      show τ.1 (1193 + up) 4 = _
                      rw [ai.1]
                      exact f4
                  · rw [if_neg c7] at eO
                    rw [if_neg c7, cVt, eO]
                    exact ⟨fun _ => ⟨_, rfl, (ag.z.t0 t2.z).t0 (fin 0 0).z⟩, fun y hy => by cases hy⟩
              · rw [if_neg c6, cIt]
                rw [hP4 c6] at eO
                rw [eO]
                exact ⟨fun _ => ⟨_, rfl, ag.z⟩, fun y hy => by cases hy⟩
            · rw [hw] at f0 ⊢
              rw [hw, if_neg (by decide), if_neg (by decide), if_neg (by decide), if_pos rfl] at eO
              rw [if_neg (by decide), if_pos (by decide), f52_e hd]
              by_cases c6 : d < 4
              · rw [if_pos c6, cIo]
                have x := hE' c6 τ1 (nmE b p + 1) (up + 1) us SM cp (by omega) (by omega)
                cases hq : E' (nmE b p + 1) with
                | none =>
                  obtain ⟨τ, t1, t2⟩ := x.1 hq
                  rw [hq] at eO
                  rw [t1, cRt, eO]
                  exact ⟨fun _ => ⟨τ, rfl, ag.z.t0 t2⟩, fun y hy => by cases hy⟩
                | some z =>
                  obtain ⟨τ, c', u2, s2, SM', t1, t2, t3, t4, t5, t6, t7, t8⟩ := x.2 z hq
                  obtain ⟨z1, z2, z3⟩ := hgE' _ _ (by omega) hq
                  have hcl := (rep_le t6).1
                  have hu2 := t3.2.2.2.2.2.1
                  have hs2 := t3.2.2.2.2.2.2.1
                  rw [hq] at eO
                  dsimp only at eO
                  have cc : cQP b (uR τ (1193 + up) 1 (.ref (1193 + c'))) z.1 u2 s2 := t3
                  have ai := t2.2.2.1 up (by omega)
                  rw [t1, cRo, if_pos (prt_f c' (by omega)), ltE, f50_e hb cc]
                  have fin : ∀ uu ss, aqX (fun A j => A = 1193 + up ∧ j = 1) uu ss τ (uR τ (1193 + up) 1 (.ref (1193 + c'))) := by
                    intro uu ss
                    refine ⟨rfl, fun _ _ => rfl, fun i hi => ⟨rfl, rfl, fun j hj => ?_⟩, fun i hi => ⟨rfl, fun j hj => ?_⟩⟩
                    · rw [xR3, if_neg hj]
                    · rw [xR3, if_neg hj]
                  by_cases c7 : b.getD z.1 0 = 41
                  · have hl7 := ch_lt c7 (by decide)
                    rw [if_pos c7] at eO
                    have hev := (hg p _ hp eO).2.2.1
                    rw [if_pos c7, cVo, eO]
                    refine ⟨fun q => (by cases q), fun y hy => ?_⟩
                    injection hy with hy
                    subst hy
                    have fin2 : aqX (fun A j => A = 1193 + up ∧ j = 1) u2 s2 τ (uI (uR τ (1193 + up) 1 (.ref (1193 + c'))) 1030 5 (Int32.ofNat (z.1 + 1))) := (fin u2 s2).tr (E' := fun _ _ => False) (u2 := u2) (s2 := s2) ((aqP.mv).x) (Nat.le_refl _) (Nat.le_refl _) (fun _ _ _ q => q.elim) (fun _ _ _ q => q.elim)
                    have y1 := rep_X (SM' := SM') t6 fin2 (fun i j i1 i2 q => by have := q.1; omega) (fun i j i1 i2 q => by have := q.1; omega) (fun _ _ => rfl)
                    refine ⟨_, up, u2, s2, SM', rfl, ?_, cc.mv (by omega), t4, ⟨by omega, t5.2.1, by show u2 ≤ z.1 + 1; omega, by show 3 * s2 ≤ 2 * (z.1 + 1) + 2; omega⟩, ⟨⟨Nat.le_refl _, by omega, t5.2.1⟩, hev, Or.inr (Or.inr (Or.inr (Or.inr (Or.inr (Or.inr (Or.inr (Or.inl ⟨?_, rfl, c', z.2, ?_, y1, rfl⟩)))))))⟩, ?_, ?_⟩
                    · exact (ag.tr (t2.wk (by omega) (Nat.le_refl _)) (Nat.le_refl _) (Nat.le_refl _)).tr (fin2.p (u2 := up) (s2 := us) (fun i j hi q => by have := q.1; omega) (fun i j hi q => by have := q.1; omega) (by omega) (by omega)) (Nat.le_refl _) (Nat.le_refl _)
                    · rw [u_ne (by omega)]
                      show τ.1 (1193 + up) 0 = _
                      rw [ai.1]
                      exact f0
                    · rw [xI2, xR3, if_pos ⟨rfl, rfl⟩]
                    · rw [xI2, xR3, if_neg (by omega), ai.2.2]
                      exact f3
                    · rw [u_ne (by omega)]
                      show τ.1 (1193 + up) 4 = _
                      rw [ai.1]
                      exact f4
                  · rw [if_neg c7] at eO
                    rw [if_neg c7, cVt, eO]
                    exact ⟨fun _ => ⟨_, rfl, (ag.z.t0 t2.z).t0 (fin 0 0).z⟩, fun y hy => by cases hy⟩
              · rw [if_neg c6, cIt]
                rw [hE4 c6] at eO
                rw [eO]
                exact ⟨fun _ => ⟨_, rfl, ag.z⟩, fun y hy => by cases hy⟩
        · have e : rdO ns b P P' E' p = asE (P p) := by
            unfold rdO
            rw [if_neg c1, if_neg c2, if_neg (fun q => c4 q.2)]
          rw [if_neg c4]
          exact pth _ e
end QOP
