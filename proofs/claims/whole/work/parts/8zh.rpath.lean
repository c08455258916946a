/-! THE REFERENCE READS steps and paths -/
section RPT
variable {F d : Nat} {b : List Int32} {ns : List Nd} {E : Nat → Option (Nat × Ev)}
theorem prF_none {PT : Nat → Sm} {T : Tb} {nop s : Nat} {x : Int32} : ∀ m, (∀ r, r < m → ¬ T.2.2.1 r = s) → prF ns b PT T nop s x m = x
  | 0, _ => rfl
  | m + 1, h => by
    unfold prF
    rw [if_neg (h m (by omega))]
    exact prF_none m (fun r hr => h r (by omega))
theorem paF_none {PT : Nat → Sm} {T : Tb} {npr nop k : Nat} {x : Int32} : ∀ m, (∀ s, s < m → ¬ (T.2.1 s).1 = k) → paF ns b PT T npr nop k x m = x
  | 0, _ => rfl
  | m + 1, h => by
    unfold paF
    rw [if_neg (h m (by omega))]
    exact paF_none m (fun r hr => h r (by omega))
theorem paF_low {PT PT' : Nat → Sm} {T T' : Tb} {np nst npr nop np' nst' npr' nop' k0 s0 r0 k : Nat} {x : Int32} (hy : Ex T T' np nst npr nop np' nst' npr' nop' k0 s0 r0) (hW : TW b T np nst npr nop) (hPT : ∀ k, k < np → PT' k = PT k) (hs0 : nst ≤ s0) (hr0 : npr ≤ r0) : ∀ m, m ≤ nst → paF ns b PT' T' npr' nop' k x m = paF ns b PT T npr nop k x m := by
  intro m
  induction m with
  | zero => exact fun _ => rfl
  | succ m ih =>
    intro hm
    unfold paF
    rw [ih (by omega), hy.2.1.2.1 m (by omega)]
    by_cases c : (T.2.1 m).1 = k
    · rw [if_pos c, if_pos c]
      rw [stD_fr (lo := 0) hy hW hPT (by omega) (by omega) (Or.inr hr0) (fun r h1 h2 => Nat.zero_le _)]
    · rw [if_neg c, if_neg c]
/-- a step has been added to path k, and perhaps predicates to it, and what is in them -/
theorem paF_step {PT PT' : Nat → Sm} {T T' : Tb} {np nst npr nop np' nst' npr' nop' k a t f n : Nat} {m : Sm} (hk : k < np) (hc : np ≤ 9998 ∧ nst ≤ 9998 ∧ npr ≤ 9999) (hW : TW b T np nst npr nop) (hy : Ex (adS T nst (k, a, t, f, n)) T' np (nst + 1) npr nop np' nst' npr' nop' 9999 nst 9999) (hPT : ∀ k, k < np → PT' k = PT k) (hm : stD ns b PT' T' npr' nop' nst = m) (x : Int32) : paF ns b PT' T' npr' nop' k x nst' = uni m (paF ns b PT T npr nop k x nst) ns.length := by
  have e0 : Ex T T' np nst npr nop np' nst' npr' nop' k 9999 9999 := by
    have e : Ex T (adS T nst (k, a, t, f, n)) np nst npr nop np (nst + 1) npr nop k 9999 9999 := Ex.aS (w := (k, a, t, f, n))
    exact e.tr hy (Or.inr (by omega)) (Or.inr (Nat.le_refl _)) (Or.inl rfl)
  have high : ∀ z, nst + 1 + z ≤ nst' → paF ns b PT' T' npr' nop' k x (nst + 1 + z) = paF ns b PT' T' npr' nop' k x (nst + 1) := by
    intro z
    induction z with
    | zero => exact fun _ => rfl
    | succ z ih =>
      intro hz
      show (if (T'.2.1 (nst + 1 + z)).1 = k then _ else _) = _
      have := hy.2.2.1 (nst + 1 + z) (by omega) (by omega)
      rw [if_neg (by omega)]
      exact ih (by omega)
  have h1 := hy.1.2.1
  have h2 := high (nst' - (nst + 1)) (by omega)
  rw [show nst + 1 + (nst' - (nst + 1)) = nst' by omega] at h2
  have h3 : (T'.2.1 nst).1 = k := by
    rw [hy.2.1.2.1 nst (by omega)]
    show (if nst = nst then (k, a, t, f, n) else T.2.1 nst).1 = k
    rw [if_pos rfl]
  rw [h2]
  show (if (T'.2.1 nst).1 = k then uni (stD ns b PT' T' npr' nop' nst) (paF ns b PT' T' npr' nop' k x nst) ns.length else _) = _
  rw [if_pos h3, hm, paF_low e0 hW hPT (by omega) (by omega) nst (Nat.le_refl _)]
theorem rS {p np nst npr nop k : Nat} {σ : St} {T : Tb} {PT : Nat → Sm} (hF : 500 ≤ F) (hb : b.length ≤ 120) (ho : okB b) (hE : d < 4 → rgX F b ns (d + 1) E) (hE4 : ¬ d < 4 → ∀ p, E p = none) (hgE : gE ns b E) (h : mQ b σ p d np nst npr nop T) (hm : np ≤ p + 1 ∧ nst ≤ p ∧ npr ≤ p ∧ nop ≤ p) (hk : σ.1 1354 d = Int32.ofNat k) (hkn : k < np) : (rdS ns b E p = none → rBad F b 2 σ p) ∧ ∀ y, rdS ns b E p = some y → ∃ (τ : St) (c np' nst' npr' nop' : Nat) (T' : Tb) (PT' : Nat → Sm), Rn F 2 σ 4 τ c ∧ c + 8 * p + 6 ≤ 8 * y.1 ∧ mQ b τ y.1 d np' nst' npr' nop' T' ∧ agK d σ τ ∧ τ.1 1354 d = Int32.ofNat k ∧ Ex T T' np nst npr nop np' nst' npr' nop' k 9999 9999 ∧ gdT ns b PT PT' T' np npr np' nst' npr' nop' ∧ (mCn y.1 np' nst' npr' nop' ∧ nop' + p + 1 ≤ nop + y.1) ∧ ∀ x, paF ns b PT' T' npr' nop' k x nst' = uni y.2 (paF ns b PT T npr nop k x nst) ns.length := by
  have hp := h.2.2.2.2.1
  have hW := h.2.2.2.1
  have z := f211_e (F := F) hF hb ho h (by omega) hk hkn
  have hnst := h.2.2.2.2.2.2.2.1
  have hnp := h.2.2.2.2.2.2.1
  have hnpr := h.2.2.2.2.2.2.2.2.1
  rw [rdS_0]
  cases hs : rdS0 b p with
  | none =>
    obtain ⟨τ, t1, t2⟩ := z.1 hs
    exact ⟨fun _ => rBad.at (Rn.m2 t1) hp t2, fun y hy => by cases hy⟩
  | some w =>
    obtain ⟨τ, t1, t2, t3, t4, t5⟩ := z.2 w hs
    obtain ⟨w1, w2⟩ := rdS0_ok hp hs
    have hW1 := t2.2.2.2.1
    have eT : Ex T (adS T nst (k, w.1.1, w.1.2.1, w.1.2.2.1, w.1.2.2.2)) np nst npr nop np (nst + 1) npr nop k 9999 9999 := Ex.aS (w := (k, w.1.1, w.1.2.1, w.1.2.2.1, w.1.2.2.2))
    have at1 : (adS T nst (k, w.1.1, w.1.2.1, w.1.2.2.1, w.1.2.2.2)).2.1 nst = (k, w.1.1, w.1.2.1, w.1.2.2.1, w.1.2.2.2) := if_pos rfl
    dsimp only
    by_cases c : w.2.2 = true
    · rw [if_pos c]
      rw [if_pos c] at t1
      refine ⟨fun hx => (by cases hx), fun y hy => ?_⟩
      injection hy with hy
      subst hy
      refine ⟨τ, 1, np, nst + 1, npr, nop, _, PT, Rn.m2 t1, by show 1 + 8 * p + 6 ≤ 8 * w.2.1; omega, t2, t3, t4, eT, gdT.nil eT, ⟨⟨by show np ≤ w.2.1; omega, by show nst + 1 ≤ w.2.1; omega, by show npr ≤ w.2.1; omega, by show nop ≤ w.2.1; omega⟩, by show nop + p + 1 ≤ nop + w.2.1; omega⟩, fun x => ?_⟩
      refine paF_step hkn ⟨by omega, by omega, by omega⟩ hW Ex.rf (fun _ _ => rfl) ?_ x
      funext q
      unfold stD stpM
      rw [at1, prF_none npr (fun r hr q => by have := hW.2.1 r hr; have q : T.2.2.1 r = nst := q; omega)]
      rfl
    · rw [if_neg c]
      rw [if_neg c] at t1
      have y := rQ hb hE hE4 hgE 130 w.2.1 τ np (nst + 1) npr nop nst _ PT t2 ⟨by omega, by omega, by omega, by omega⟩ (by omega) t5 (by omega)
      have r1 : Rn F 2 σ 3 τ 1 := Rn.m2 t1
      cases hq : rdQ b E 130 w.2.1 with
      | none => exact ⟨fun _ => (y.1 hq).bk r1 (by omega) t3.1.1.1, fun y hy => by cases hy⟩
      | some v =>
        obtain ⟨υ, e, np', nst', npr', nop', T', PT', u1, u2, u3, u4, u5, u6, u7, u8⟩ := y.2 v hq
        refine ⟨fun hx => (by cases hx), fun y hy => ?_⟩
        injection hy with hy
        subst hy
        have at2 : T'.2.1 nst = (k, w.1.1, w.1.2.1, w.1.2.2.1, w.1.2.2.2) := by
          rw [u5.2.1.2.1 nst (by omega)]
          exact at1
        refine ⟨υ, 1 + e, np', nst', npr', nop', T', PT', r1.tr u1, by show 1 + e + 8 * p + 6 ≤ 8 * v.1; omega, u3, t3.tr u4.c, ?_, eT.tr u5 (Or.inr (by omega)) (Or.inr (by omega)) (Or.inl rfl), u6, ⟨u7.1, by show nop' + p + 1 ≤ nop + v.1; omega⟩, fun x => ?_⟩
        · rw [u4.2 d (by omega) 1354 (by decide) (by decide)]
          exact t4
        · refine paF_step hkn ⟨by omega, by omega, by omega⟩ hW u5 u6.1 ?_ x
          funext q
          unfold stD stpM
          rw [at2, u8, at1, prF_none npr (fun r hr q => by have := hW.2.1 r hr; have q : T.2.2.1 r = nst := q; omega)]
theorem rBl (hF : 500 ≤ F) (hb : b.length ≤ 120) (ho : okB b) (hn : ns.length ≤ 32) (hE : d < 4 → rgX F b ns (d + 1) E) (hE4 : ¬ d < 4 → ∀ p, E p = none) (hgE : gE ns b E) {k : Nat} : ∀ (n p : Nat) (σ : St) (np nst npr nop : Nat) (T : Tb) (PT : Nat → Sm), mQ b σ p d np nst npr nop T → (np ≤ p + 1 ∧ nst ≤ p ∧ npr ≤ p ∧ nop ≤ p) → b.length + 1 ≤ n + p → σ.1 1354 d = Int32.ofNat k → k < np → (rdB ns b E n p = none → rBad F b 2 σ p) ∧ ∀ y, rdB ns b E n p = some y → ∃ (τ : St) (c np' nst' npr' nop' : Nat) (T' : Tb) (PT' : Nat → Sm), Rn F 2 σ 5 τ c ∧ c + 8 * p + 5 ≤ 8 * y.1 ∧ mQ b τ y.1 d np' nst' npr' nop' T' ∧ agK d σ τ ∧ τ.1 1354 d = Int32.ofNat k ∧ Ex T T' np nst npr nop np' nst' npr' nop' k 9999 9999 ∧ gdT ns b PT PT' T' np npr np' nst' npr' nop' ∧ (mCn y.1 np' nst' npr' nop' ∧ nop' + p + 1 ≤ nop + y.1) ∧ ∀ x, paF ns b PT' T' npr' nop' k x nst' = pthF ns.length y.2 (paF ns b PT T npr nop k x nst) := by
  intro n
  induction n with
  | zero =>
    intro p σ np nst npr nop T PT h hm hf
    have := h.2.2.2.2.1
    omega
  | succ n ih =>
    intro p σ np nst npr nop T PT h hm hf hk hkn
    have hp := h.2.2.2.2.1
    have hW := h.2.2.2.1
    have hnst := h.2.2.2.2.2.2.2.1
    have hnp := h.2.2.2.2.2.2.1
    have hnpr := h.2.2.2.2.2.2.2.2.1
    have x := rS (PT := PT) hF hb ho hE hE4 hgE h hm hk hkn
    unfold rdB
    cases hs : rdS ns b E p with
    | none => exact ⟨fun _ => x.1 hs, fun y hy => by cases hy⟩
    | some z =>
      obtain ⟨τ, c, np1, nst1, npr1, nop1, T1, PT1, t1, t2, t3, t4, t5, t6, t7, t8, t9⟩ := x.2 z hs
      obtain ⟨z1, z2, z3⟩ := rdS_ok hn hgE hp hs
      obtain ⟨⟨q1, q2, q3, q4⟩, q5⟩ := t8
      have hW1 := t3.2.2.2.1
      have hkn1 : k < np1 := by have := t6.1.1; omega
      obtain ⟨d1, d2, d3⟩ := f219_e (F := F) hb t3 (by omega) t5 hkn1
      dsimp only
      by_cases c1 : b.getD z.1 0 = 47
      · have hl := ch_lt c1 (by decide)
        rw [if_pos c1, rdL_B]
        -- from state 2 behind the bar
        have go : ∀ (υ : St) (nst2 : Nat) (T2 : Tb) (e : Nat), Rn F 2 σ 2 υ e → e + 8 * p + 2 ≤ 8 * dsP b (z.1 + 1) → mQ b υ (dsP b (z.1 + 1)) d np1 nst2 npr1 nop1 T2 → nst2 ≤ dsP b (z.1 + 1) → agK d σ υ → υ.1 1354 d = Int32.ofNat k → Ex T T2 np nst npr nop np1 nst2 npr1 nop1 k 9999 9999 → gdT ns b PT PT1 T2 np npr np1 nst2 npr1 nop1 → (∀ x ss, pthF ns.length ss (paF ns b PT1 T2 npr1 nop1 k x nst2) = pthF ns.length (z.2 :: dsS ns b (z.1 + 1) ss) (paF ns b PT T npr nop k x nst)) → ((match (match rdB ns b E n (dsP b (z.1 + 1)) with | none => none | some y => some (y.1, dsS ns b (z.1 + 1) y.2) : Option (Nat × List Sm)) with | none => none | some y => some (y.1, z.2 :: y.2)) = none → rBad F b 2 σ p) ∧ ∀ y, (match (match rdB ns b E n (dsP b (z.1 + 1)) with | none => none | some y => some (y.1, dsS ns b (z.1 + 1) y.2) : Option (Nat × List Sm)) with | none => none | some y => some (y.1, z.2 :: y.2)) = some y → ∃ (τ : St) (c np' nst' npr' nop' : Nat) (T' : Tb) (PT' : Nat → Sm), Rn F 2 σ 5 τ c ∧ c + 8 * p + 5 ≤ 8 * y.1 ∧ mQ b τ y.1 d np' nst' npr' nop' T' ∧ agK d σ τ ∧ τ.1 1354 d = Int32.ofNat k ∧ Ex T T' np nst npr nop np' nst' npr' nop' k 9999 9999 ∧ gdT ns b PT PT' T' np npr np' nst' npr' nop' ∧ (mCn y.1 np' nst' npr' nop' ∧ nop' + p + 1 ≤ nop + y.1) ∧ ∀ x, paF ns b PT' T' npr' nop' k x nst' = pthF ns.length y.2 (paF ns b PT T npr nop k x nst) := by
          intro υ nst2 T2 e g1 g2 g3 g4 g5 g6 g7 g8 g9
          have ds := dsP_le (b := b) (p := z.1 + 1) (by omega)
          have hW2 := g3.2.2.2.1
          have hnst2 := g3.2.2.2.2.2.2.2.1
          have hnp2 := g3.2.2.2.2.2.2.1
          have hnpr2 := g3.2.2.2.2.2.2.2.2.1
          have i2 := ih (dsP b (z.1 + 1)) υ np1 nst2 npr1 nop1 T2 PT1 g3 ⟨by omega, g4, by omega, by omega⟩ (by omega) g6 hkn1
          cases hr : rdB ns b E n (dsP b (z.1 + 1)) with
          | none => exact ⟨fun _ => (i2.1 hr).bk g1 g2 g5.1.1.1, fun y hy => by cases hy⟩
          | some v =>
            obtain ⟨ω, e2, np5, nst5, npr5, nop5, T5, PT5, w1, w2, w3, w4, w5, w6, w7, w8, w9⟩ := i2.2 v hr
            refine ⟨fun hx => (by cases hx), fun y hy => ?_⟩
            injection hy with hy
            subst hy
            refine ⟨ω, e + e2, np5, nst5, npr5, nop5, T5, PT5, g1.tr w1, by show e + e2 + 8 * p + 5 ≤ 8 * v.1; omega, w3, g5.tr w4, w5, g7.tr w6 (Or.inl rfl) (Or.inl rfl) (Or.inl rfl), gdT.tr hW g7 g8 hW2 w6 w7 (Or.inl hkn) (Or.inr (by omega)) (Or.inr (by omega)), ⟨w8.1, by show nop5 + p + 1 ≤ nop + v.1; omega⟩, fun x => ?_⟩
            rw [w9, g9]
        by_cases c2 : b.getD (z.1 + 1) 0 = 47
        · have hl2 := ch_lt c2 (by decide)
          obtain ⟨υ, u1, u2, u3, u4⟩ := d3 c1 c2
          have eS : Ex T1 (adS T1 nst1 (k, 10, 4, 0, 0)) np1 nst1 npr1 nop1 np1 (nst1 + 1) npr1 nop1 k 9999 9999 := Ex.aS (w := (k, 10, 4, 0, 0))
          have at1 : (adS T1 nst1 (k, 10, 4, 0, 0)).2.1 nst1 = (k, 10, 4, 0, 0) := if_pos rfl
          have dsp : dsP b (z.1 + 1) = z.1 + 2 := by
            unfold dsP
            rw [if_pos c2]
          refine go υ (nst1 + 1) _ (c + 1) (t1.tr (Rn.m4 u1)) (by rw [dsp]; omega) (by rw [dsp]; exact u2) (by rw [dsp]; omega) (t4.tr u3) u4 (t6.tr eS (Or.inl rfl) (Or.inl rfl) (Or.inl rfl)) (gdT.tr hW t6 t7 hW1 eS (gdT.nil eS) (Or.inl hkn) (Or.inr (by omega)) (Or.inr (by omega))) (fun x ss => ?_)
          have st : stD ns b PT1 (adS T1 nst1 (k, 10, 4, 0, 0)) npr1 nop1 nst1 = stpM ns b 10 4 0 0 [] := by
            funext q
            unfold stD stpM
            rw [at1, prF_none npr1 (fun r hr q => by have := hW1.2.1 r hr; have q : T1.2.2.1 r = nst1 := q; omega)]
            rfl
          rw [paF_step hkn1 ⟨by omega, by omega, by omega⟩ hW1 (Ex.rf) (fun _ _ => rfl) st x, t9]
          unfold dsS
          rw [if_pos c2]
          rfl
        · have dsp : dsP b (z.1 + 1) = z.1 + 1 := by
            unfold dsP
            rw [if_neg c2]
          refine go _ nst1 T1 (c + 1) (t1.tr (Rn.m4 (d2 c1 c2))) (by rw [dsp]; omega) (by rw [dsp]; exact t3.mv (by omega)) (by rw [dsp]; omega) (t4.tr (agF.mv (d := d + 1) (Or.inl rfl)).c) (by rw [u_ne (by decide)]; exact t5) t6 t7 (fun x ss => ?_)
          rw [t9]
          unfold dsS
          rw [if_neg c2]
          rfl
      · rw [if_neg c1]
        refine ⟨fun hx => (by cases hx), fun y hy => ?_⟩
        injection hy with hy
        subst hy
        exact ⟨τ, c + 1, np1, nst1, npr1, nop1, T1, PT1, t1.tr (Rn.m4 (d1 c1)), by show c + 1 + 8 * p + 5 ≤ 8 * z.1; omega, t3, t4, t5, t6, t7, ⟨⟨q1, q2, q3, q4⟩, q5⟩, fun x => by rw [t9]; rfl⟩
end RPT
