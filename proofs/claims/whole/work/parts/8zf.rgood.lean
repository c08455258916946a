/-! NEW PATHS AND PREDICATES MEAN WHAT THEY SHOULD, and go on meaning it -/
def gdT (ns : List Nd) (b : List Int32) (PT PT' : Nat → Sm) (T' : Tb) (np npr np' nst' npr' nop' : Nat) : Prop := (∀ k, k < np → PT' k = PT k) ∧ (∀ k, np ≤ k → k < np' → smOK ns (PT' k) ∧ paD ns b PT' T' nst' npr' nop' k = PT' k) ∧ (∀ r, npr ≤ r → r < npr' → ∀ n x t, ∃ v, skM ns b PT' T' r n x t nop' = [v])
section RGD
variable {ns : List Nd} {b : List Int32} {PT PT' PT2 : Nat → Sm} {T T' T2 : Tb} {np nst npr nop np' nst' npr' nop' np2 nst2 npr2 nop2 k0 s0 r0 k1 s1 r1 : Nat}
theorem gdT.rf : gdT ns b PT PT T np npr np nst npr nop := ⟨fun _ _ => rfl, fun k h1 h2 => by omega, fun k h1 h2 => by omega⟩
/-- what was good stays good -/
theorem gdT.ex (hW0 : TW b T np nst npr nop) (hx : Ex T T' np nst npr nop np' nst' npr' nop' k0 s0 r0) (h : gdT ns b PT PT' T' np npr np' nst' npr' nop') (hW : TW b T' np' nst' npr' nop') (hy : Ex T' T2 np' nst' npr' nop' np2 nst2 npr2 nop2 k1 s1 r1) (hPT : ∀ k, k < np' → PT2 k = PT' k) (hk : k1 < np ∨ np' ≤ k1) (hs : s1 < nst ∨ nst' ≤ s1) (hr : r1 < npr ∨ npr' ≤ r1) : (∀ k, k < np → PT2 k = PT k) ∧ (∀ k, np ≤ k → k < np' → smOK ns (PT2 k) ∧ paD ns b PT2 T2 nst2 npr2 nop2 k = PT2 k) ∧ (∀ r, npr ≤ r → r < npr' → ∀ n x t, ∃ v, skM ns b PT2 T2 r n x t nop2 = [v]) := by
  have le := hx.1
  refine ⟨fun k hk => by rw [hPT k (by omega), h.1 k hk], fun k h1 h2 => ?_, fun r h1 h2 n x t => ?_⟩
  · have g := h.2.1 k h1 h2
    rw [hPT k h2]
    refine ⟨g.1, ?_⟩
    rw [paD_fr (ls := nst) (lo := npr) hy hW hPT h2 (by omega) hs hr (fun s q1 q2 => ?_) (fun r q1 q2 => ?_)]
    · exact g.2
    · by_cases c : s < nst
      · have := (hW0.1 s c).1
        rw [← hx.2.1.2.1 s c] at this
        omega
      · omega
    · by_cases c : r < npr
      · have := hW0.2.1 r c
        rw [← hx.2.1.2.2.1 r c] at this
        omega
      · omega
  · rw [skM_fr hy hW hPT h2 (by omega)]
    exact h.2.2 r h1 h2 n x t
theorem gdT.tr (hW0 : TW b T np nst npr nop) (hx : Ex T T' np nst npr nop np' nst' npr' nop' k0 s0 r0) (h : gdT ns b PT PT' T' np npr np' nst' npr' nop') (hW : TW b T' np' nst' npr' nop') (hy : Ex T' T2 np' nst' npr' nop' np2 nst2 npr2 nop2 k1 s1 r1) (g : gdT ns b PT' PT2 T2 np' npr' np2 nst2 npr2 nop2) (hk : k1 < np ∨ np' ≤ k1) (hs : s1 < nst ∨ nst' ≤ s1) (hr : r1 < npr ∨ npr' ≤ r1) : gdT ns b PT PT2 T2 np npr np2 nst2 npr2 nop2 := by
  have z := gdT.ex hW0 hx h hW hy g.1 hk hs hr
  refine ⟨z.1, fun k h1 h2 => ?_, fun r h1 h2 => ?_⟩
  · by_cases c : k < np'
    · exact z.2.1 k h1 c
    · exact g.2.1 k (by omega) h2
  · by_cases c : r < npr'
    · exact z.2.2 r h1 c
    · exact g.2.2 r (by omega) h2
/-- nothing new but ops of the current predicate, steps of the current path -/
theorem gdT.nil (hy : Ex T T' np nst npr nop np nst' npr nop' k1 s1 r1) : gdT ns b PT PT T' np npr np nst' npr nop' := ⟨fun _ _ => rfl, fun k h1 h2 => by omega, fun r h1 h2 => by omega⟩
theorem skM_adO {n x t : Nat} {w : Nat × Nat × Nat × Nat} (hW : TW b T np nst npr nop) : skM ns b PT (adO T nop w) w.1 n x t (nop + 1) = opF ns b PT w n x t (skM ns b PT T w.1 n x t nop) := by
  have e : (adO T nop w).2.2.2 nop = w := if_pos rfl
  show (if ((adO T nop w).2.2.2 nop).1 = w.1 then opF ns b PT ((adO T nop w).2.2.2 nop) n x t (skM ns b PT (adO T nop w) w.1 n x t nop) else _) = _
  rw [e, if_pos rfl, skM_low (T := T) (PT := PT) (Ex.aO (k0 := 0) (s0 := 0) (np := np) (nst := nst) (npr := npr)) hW (fun _ _ => rfl) (Nat.le_refl _)]
theorem TW.aO {w : Nat × Nat × Nat × Nat} (hW : TW b T np nst npr nop) (hw : opW b T np npr w) : TW b (adO T nop w) np nst npr (nop + 1) := by
  refine ⟨hW.1, hW.2.1, fun o ho => ?_⟩
  show opW b _ np npr (if o = nop then w else T.2.2.2 o)
  by_cases c : o = nop
  · rw [if_pos c]
    exact hw
  · rw [if_neg c]
    exact hW.2.2 o (by omega)
theorem skM_new {n x t : Nat} (hW : TW b T np nst npr nop) : ∀ m, m ≤ nop → skM ns b PT T npr n x t m = [] := by
  intro m
  induction m with
  | zero => exact fun _ => rfl
  | succ m ih =>
    intro hm
    show (if (T.2.2.2 m).1 = npr then _ else _) = _
    have := (hW.2.2 m (by omega)).1
    rw [if_neg (by omega)]
    exact ih (by omega)
/-- the predicates of a step, grown by others -/
theorem prF_ex {s m : Nat} {x : Int32} (hy : Ex T T' np nst npr nop np' nst' npr' nop' k0 s0 r0) (hW : TW b T np nst npr nop) (hPT : ∀ k, k < np → PT' k = PT k) (hs : s < nst) (hs0 : ¬ s = s0) (hr0 : ∀ r, r < npr → T.2.2.1 r = s → ¬ r = r0) : prF ns b PT' T' nop' s x npr' = prF ns b PT T nop s x npr := by
  have high : ∀ d, npr + d ≤ npr' → prF ns b PT' T' nop' s x (npr + d) = prF ns b PT' T' nop' s x npr := by
    intro d
    induction d with
    | zero => exact fun _ => rfl
    | succ d ih =>
      intro hd
      show (if T'.2.2.1 (npr + d) = s then _ else _) = _
      have := hy.2.2.2.1 (npr + d) (by omega) (by omega)
      rw [if_neg (by omega)]
      exact ih (by omega)
  have low : ∀ m, m ≤ npr → prF ns b PT' T' nop' s x m = prF ns b PT T nop s x m := by
    intro m
    induction m with
    | zero => exact fun _ => rfl
    | succ m ih =>
      intro hm
      unfold prF
      rw [ih (by omega), hy.2.1.2.2.1 m (by omega), hy.2.1.2.1 s hs]
      by_cases c : T.2.2.1 m = s
      · rw [if_pos c, if_pos c]
        have := hr0 m (by omega) c
        have e : qmM ns b PT' T' nop' m = qmM ns b PT T nop m := by
          funext n y t
          unfold qmM
          rw [skM_fr hy hW hPT (by omega) this]
        rw [e]
      · rw [if_neg c, if_neg c]
  have h := hy.1.2.2.1
  have := high (npr' - npr) (by omega)
  rw [show npr + (npr' - npr) = npr' by omega] at this
  rw [this]
  exact low npr (Nat.le_refl _)
/-- the steps of a path, grown by others -/
theorem paF_ex {k ls : Nat} {x : Int32} (hy : Ex T T' np nst npr nop np' nst' npr' nop' k0 s0 r0) (hW : TW b T np nst npr nop) (hPT : ∀ k, k < np → PT' k = PT k) (hk0 : ¬ k = k0 ∧ k < np) (hs0 : nst ≤ s0) (hr0 : npr ≤ r0) : paF ns b PT' T' npr' nop' k x nst' = paF ns b PT T npr nop k x nst := by
  have low : ∀ m, m ≤ nst → paF ns b PT' T' npr' nop' k x m = paF ns b PT T npr nop k x m := by
    intro m
    induction m with
    | zero => exact fun _ => rfl
    | succ m ih =>
      intro hm
      unfold paF
      rw [ih (by omega), hy.2.1.2.1 m (by omega)]
      by_cases c : (T.2.1 m).1 = k
      · rw [if_pos c, if_pos c]
        rw [stD_fr (lo := 0) hy hW hPT (by omega) (by omega) (Or.inr hr0) (fun r h1 h2 => Nat.zero_le _)]
      · rw [if_neg c, if_neg c]
  have high : ∀ d, nst + d ≤ nst' → paF ns b PT' T' npr' nop' k x (nst + d) = paF ns b PT' T' npr' nop' k x nst := by
    intro d
    induction d with
    | zero => exact fun _ => rfl
    | succ d ih =>
      intro hd
      show (if (T'.2.1 (nst + d)).1 = k then _ else _) = _
      have := hy.2.2.1 (nst + d) (by omega) (by omega)
      rw [if_neg (by omega)]
      exact ih (by omega)
  have h := hy.1.2.1
  have := high (nst' - nst) (by omega)
  rw [show nst + (nst' - nst) = nst' by omega] at this
  rw [this]
  exact low nst (Nat.le_refl _)
theorem rdS_0 {E : Nat → Option (Nat × Ev)} {p : Nat} : rdS ns b E p = match rdS0 b p with
    | none => none
    | some x => if x.2.2 = true then some (x.2.1, stpM ns b x.1.1 x.1.2.1 x.1.2.2.1 x.1.2.2.2 []) else match rdQ b E 130 x.2.1 with
      | none => none
      | some z => some (z.1, stpM ns b x.1.1 x.1.2.1 x.1.2.2.1 x.1.2.2.2 z.2) := by
  unfold rdS rdS0
  by_cases c : b.getD p 0 = 46
  · rw [if_pos c, if_pos c]
    by_cases c2 : b.getD (p + 1) 0 = 46
    · rw [if_pos c2, if_pos c2]
      rfl
    · rw [if_neg c2, if_neg c2]
      rfl
  · rw [if_neg c, if_neg c]
    cases rdA b p with
    | none => rfl
    | some x =>
      dsimp only
      cases rdK b x.2 with
      | none => rfl
      | some y => rfl
theorem rdS0_ok {p : Nat} {x : (Nat × Nat × Nat × Nat) × Nat × Bool} (hp : p ≤ b.length) (h : rdS0 b p = some x) : p < x.2.1 ∧ x.2.1 ≤ b.length := by
  unfold rdS0 at h
  split at h
  · next c =>
    have c1 := ch_lt c (by decide)
    split at h
    · next c2 =>
      have c3 := ch_lt c2 (by decide)
      injection h with h
      subst h
      exact ⟨by show p < p + 2; omega, c3⟩
    · injection h with h
      subst h
      exact ⟨by show p < p + 1; omega, c1⟩
  · split at h
    · cases h
    · next y hy =>
      obtain ⟨a1, a2, a3⟩ := rdA_ok hp hy
      split at h
      · cases h
      · next z hz =>
        obtain ⟨k1, k2, k3, k4⟩ := rdK_ok a3 hz
        injection h with h
        subst h
        exact ⟨by show p < z.2; omega, k4⟩
end RGD
