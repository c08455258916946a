/-! THE REFERENCE READS a path -/
def rgP (F : Nat) (b : List Int32) (ns : List Nd) (d : Nat) (P : Nat → Option (Nat × Sm)) : Prop := ∀ σ p np nst npr nop T PT, mQ b σ p d np nst npr nop T → mCn p np nst npr nop → (P p = none → rBad F b 1 σ p) ∧ ∀ y, P p = some y → ∃ (τ : St) (c np' nst' npr' nop' : Nat) (T' : Tb) (PT' : Nat → Sm), Rn F 1 σ 5 τ c ∧ c + 8 * p + 4 ≤ 8 * y.1 ∧ mQ b τ y.1 d np' nst' npr' nop' T' ∧ agK d σ τ ∧ τ.1 1354 d = Int32.ofNat np ∧ Ex T T' np nst npr nop np' nst' npr' nop' 9999 9999 9999 ∧ gdT ns b PT PT' T' np npr np' nst' npr' nop' ∧ PT' np = y.2 ∧ np < np' ∧ (mCn y.1 np' nst' npr' nop' ∧ nop' + p + 1 ≤ nop + y.1)
section RP2
variable {F d : Nat} {b : List Int32} {ns : List Nd} {E : Nat → Option (Nat × Ev)}
def upP (PT : Nat → Sm) (k : Nat) (m : Sm) : Nat → Sm := fun j => if j = k then m else PT j
/-- the steps of path np are read from state 2 on -/
theorem rP0 (hF : 500 ≤ F) (hb : b.length ≤ 120) (ho : okB b) (hn : ns.length ≤ 32) (hn0 : 0 < ns.length) (hE : d < 4 → rgX F b ns (d + 1) E) (hE4 : ¬ d < 4 → ∀ p, E p = none) (hgE : gE ns b E) {σ τ : St} {p q np nst npr nop nst1 : Nat} {T T1 : Tb} {PT : Nat → Sm} {r : Bool} (hW : TW b T np nst npr nop) (hb2 : np ≤ 120 ∧ nst ≤ 121 ∧ npr ≤ 121) (h1 : Rn F 1 σ 2 τ 1) (h2 : mQ b τ (dsP b q) d (np + 1) nst1 npr nop T1) (h3 : agK d σ τ) (h4 : τ.1 1354 d = Int32.ofNat np) (hpq : p ≤ q) (hq : q ≤ b.length) (hm : np ≤ p ∧ nst1 ≤ dsP b q ∧ npr ≤ p ∧ nop ≤ p) (e1 : Ex T T1 np nst npr nop (np + 1) nst1 npr nop 9999 9999 9999) (hr : T1.1 np = r) (hst : ∀ PT1 x ss, pthF ns.length ss (paF ns b PT1 T1 npr nop np x nst1) = pthF ns.length (dsS ns b q ss) x) : ((match rdL ns b E 130 q with | none => none | some x => some (x.1, pthM ns r x.2) : Option (Nat × Sm)) = none → rBad F b 1 σ p) ∧ ∀ y, (match rdL ns b E 130 q with | none => none | some x => some (x.1, pthM ns r x.2) : Option (Nat × Sm)) = some y → ∃ (τ : St) (c np' nst' npr' nop' : Nat) (T' : Tb) (PT' : Nat → Sm), Rn F 1 σ 5 τ c ∧ c + 8 * p + 4 ≤ 8 * y.1 ∧ mQ b τ y.1 d np' nst' npr' nop' T' ∧ agK d σ τ ∧ τ.1 1354 d = Int32.ofNat np ∧ Ex T T' np nst npr nop np' nst' npr' nop' 9999 9999 9999 ∧ gdT ns b PT PT' T' np npr np' nst' npr' nop' ∧ PT' np = y.2 ∧ np < np' ∧ (mCn y.1 np' nst' npr' nop' ∧ nop' + p + 1 ≤ nop + y.1) := by
  have ds := dsP_le hq
  have hW1 := h2.2.2.2.1
  have hnst := h2.2.2.2.2.2.2.2.1
  have lp : ∀ PT0 : Nat → Sm, _ := fun PT0 => rBl (F := F) (d := d) (k := np) hF hb ho hn hE hE4 hgE 129 (dsP b q) τ (np + 1) nst1 npr nop T1 PT0 h2 ⟨by omega, hm.2.1, by omega, by omega⟩ (by omega) h4 (by omega)
  rw [rdL_B]
  cases hx : rdB ns b E 129 (dsP b q) with
  | none => exact ⟨fun _ => ((lp PT).1 hx).b1 h1 (by omega) h3.1.1.1, fun y hy => by cases hy⟩
  | some z =>
    dsimp only
    obtain ⟨υ, c, np', nst', npr', nop', T', PT', u1, u2, u3, u4, u5, u6, u7, u8, u9⟩ := (lp (upP PT np (pthM ns r (dsS ns b q z.2)))).2 z hx
    refine ⟨fun hy => (by cases hy), fun y hy => ?_⟩
    injection hy with hy
    subst hy
    have hW2 := u3.2.2.2.1
    have p0 : PT' np = pthM ns r (dsS ns b q z.2) := by
      rw [u7.1 np (by omega)]
      exact if_pos rfl
    have r2 : T'.1 np = r := by
      rw [u6.2.1.1 np (by omega)]
      exact hr
    have hle := u6.1
    have exA : Ex T T' np nst npr nop np' nst' npr' nop' 9999 9999 9999 := e1.tr u6 (Or.inr (Nat.le_refl _)) (Or.inl rfl) (Or.inl rfl)
    have okp : smOK ns (pthM ns r (dsS ns b q z.2)) := by
      have e : rdL ns b E 130 q = some (z.1, dsS ns b q z.2) := by
        rw [rdL_B, hx]
      exact pthM_ok hn hn0 (rdL_ok hn hgE 130 q _ hq e).2.2
    refine ⟨υ, 1 + c, np', nst', npr', nop', T', PT', h1.tr u1, by show 1 + c + 8 * p + 4 ≤ 8 * z.1; omega, u3, h3.tr u4, u5, exA, ⟨fun k hk => ?_, fun k k1 k2 => ?_, u7.2.2⟩, p0, by omega, ⟨u8.1, by show nop' + p + 1 ≤ nop + z.1; omega⟩⟩
    · rw [u7.1 k (by omega)]
      exact if_neg (by omega)
    · by_cases c : k = np
      · subst c
        rw [p0]
        refine ⟨okp, ?_⟩
        funext n
        unfold paD
        rw [u9, r2, hst]
        rfl
      · exact u7.2.1 k (by omega) k2
theorem rP (hF : 500 ≤ F) (hb : b.length ≤ 120) (ho : okB b) (hn : ns.length ≤ 32) (hn0 : 0 < ns.length) (hE : d < 4 → rgX F b ns (d + 1) E) (hE4 : ¬ d < 4 → ∀ p, E p = none) (hgE : gE ns b E) : rgP F b ns d (rdP ns b E) := by
  intro σ p np nst npr nop T PT h hm
  have hp := h.2.2.2.2.1
  have hW := h.2.2.2.1
  obtain ⟨m1, m2, m3, m4⟩ := hm
  obtain ⟨x1, x2, x3⟩ := f208_e (F := F) hb h (by omega) (by omega)
  have eF : ∀ r, Ex T (adF T np r) np nst npr nop (np + 1) nst npr nop 9999 9999 9999 := fun r => Ex.aF
  have noS : ∀ s, s < nst → ¬ (T.2.1 s).1 = np := fun s hs q => by have := (hW.1 s hs).1; omega
  unfold rdP
  by_cases c1 : b.getD p 0 = 47
  · have hl := ch_lt c1 (by decide)
    rw [if_pos c1]
    by_cases c2 : b.getD (p + 1) 0 = 47
    · have hl2 := ch_lt c2 (by decide)
      have dsp : dsP b (p + 1) = p + 2 := by
        unfold dsP
        rw [if_pos c2]
      obtain ⟨τ, t1, t2, t3, t4⟩ := x2 c1 c2
      rw [if_pos (Or.inl c2)]
      have eS : Ex (adF T np true) (adS (adF T np true) nst (np, 10, 4, 0, 0)) (np + 1) nst npr nop (np + 1) (nst + 1) npr nop np 9999 9999 := Ex.aS (w := (np, 10, 4, 0, 0))
      have hWF : TW b (adF T np true) (np + 1) nst npr nop := (nwF (r := true) h (by omega)).1.2.2.2.1
      have at1 : (adS (adF T np true) nst (np, 10, 4, 0, 0)).2.1 nst = (np, 10, 4, 0, 0) := if_pos rfl
      refine rP0 (q := p + 1) (nst1 := nst + 1) hF hb ho hn hn0 hE hE4 hgE hW ⟨by omega, by omega, by omega⟩ (Rn.m1 t1) (by rw [dsp]; exact t2) t3 t4 (by omega) (by omega) ⟨m1, by rw [dsp]; omega, m3, m4⟩ ((eF true).tr eS (Or.inr (Nat.le_refl _)) (Or.inl rfl) (Or.inl rfl)) (show (if np = np then true else T.1 np) = true from if_pos rfl) (fun PT1 x ss => ?_)
      have st : stD ns b PT1 (adS (adF T np true) nst (np, 10, 4, 0, 0)) npr nop nst = stpM ns b 10 4 0 0 [] := by
        funext q
        unfold stD stpM
        rw [at1, prF_none npr (fun r hr q => by have := hW.2.1 r hr; have q : T.2.2.1 r = nst := q; omega)]
        rfl
      have pn : paF ns b PT1 (adF T np true) npr nop np x nst = x := paF_none nst noS
      rw [paF_step (PT := PT1) (np := np + 1) (by omega) ⟨by omega, by omega, by omega⟩ hWF Ex.rf (fun _ _ => rfl) st x, pn]
      unfold dsS
      rw [if_pos c2]
      rfl
    · obtain ⟨τ, t1, t2, t3, t4⟩ := x3 c1 c2
      have dsp : dsP b (p + 1) = p + 1 := by
        unfold dsP
        rw [if_neg c2]
      by_cases c3 : bgS (b.getD (p + 1) 0) = true
      · rw [if_pos c3] at t1
        rw [if_pos (Or.inr c3)]
        refine rP0 (q := p + 1) (nst1 := nst) hF hb ho hn hn0 hE hE4 hgE hW ⟨by omega, by omega, by omega⟩ (Rn.m1 t1) (by rw [dsp]; exact t2) t3 t4 (by omega) (by omega) ⟨m1, by rw [dsp]; omega, m3, m4⟩ (eF true) (show (if np = np then true else T.1 np) = true from if_pos rfl) (fun PT1 x ss => ?_)
        have pn : paF ns b PT1 (adF T np true) npr nop np x nst = x := paF_none nst noS
        rw [pn]
        unfold dsS
        rw [if_neg c2]
      · rw [if_neg c3] at t1
        rw [if_neg (fun q => q.elim c2 c3)]
        refine ⟨fun hy => (by cases hy), fun y hy => ?_⟩
        injection hy with hy
        subst hy
        refine ⟨τ, 1, np + 1, nst, npr, nop, adF T np true, upP PT np (pthM ns true []), Rn.m1 t1, by show 1 + 8 * p + 4 ≤ 8 * (p + 1); omega, t2, t3, t4, eF true, ⟨fun k hk => if_neg (by omega), fun k k1 k2 => ?_, fun r r1 r2 => by omega⟩, if_pos rfl, by omega, ⟨⟨by show np + 1 ≤ p + 1; omega, by show nst ≤ p + 1; omega, by show npr ≤ p + 1; omega, by show nop ≤ p + 1; omega⟩, by show nop + p + 1 ≤ nop + (p + 1); omega⟩⟩
        have e : k = np := by omega
        subst e
        have e2 : upP PT k (pthM ns true []) k = pthM ns true [] := if_pos rfl
        rw [e2]
        refine ⟨pthM_ok hn hn0 (fun s hs => by cases hs), ?_⟩
        funext n
        unfold paD
        have pn : ∀ x, paF ns b (upP PT k (pthM ns true [])) (adF T k true) npr nop k x nst = x := fun x => paF_none nst noS
        rw [pn, show (adF T k true).1 k = true from if_pos rfl]
        rfl
  · obtain ⟨τ, t1, t2, t3, t4⟩ := x1 c1
    rw [if_neg c1]
    have dsp : dsP b p = p := by
      unfold dsP
      rw [if_neg c1]
    refine rP0 (q := p) (nst1 := nst) hF hb ho hn hn0 hE hE4 hgE hW ⟨by omega, by omega, by omega⟩ (Rn.m1 t1) (by rw [dsp]; exact t2) t3 t4 (by omega) (by omega) ⟨m1, by rw [dsp]; omega, m3, m4⟩ (eF false) (show (if np = np then false else T.1 np) = false from if_pos rfl) (fun PT1 x ss => ?_)
    have pn : paF ns b PT1 (adF T np false) npr nop np x nst = x := paF_none nst noS
    rw [pn]
    unfold dsS
    rw [if_neg c1]
end RP2
