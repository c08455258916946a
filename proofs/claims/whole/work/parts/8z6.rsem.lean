/-! THE REFERENCE'S TABLES, and what they mean -/
abbrev Tb := (Nat → Bool) × (Nat → Nat × Nat × Nat × Nat × Nat) × (Nat → Nat) × (Nat → Nat × Nat × Nat × Nat)
def opB (ns : List Nd) (kd : Nat) (v w : Vl) : Vl := if kd = 7 then vN (addO false (nmV ns v) (nmV ns w)) else if kd = 8 then vN (addO true (nmV ns v) (nmV ns w)) else vB (cmpS ns (kd - 9) v w)
def opF (ns : List Nd) (b : List Int32) (PT : Nat → Sm) (w : Nat × Nat × Nat × Nat) (n x t : Nat) (s : List Vl) : List Vl :=
  if w.2.1 = 0 then vN (some (w.2.2.1 : Int)) :: s
  else if w.2.1 = 1 then vT (stre b w.2.2.1 w.2.2.2) :: s
  else if w.2.1 = 2 then vN (some (x : Int)) :: s
  else if w.2.1 = 3 then vN (some (t : Int)) :: s
  else if w.2.1 = 4 then ctM ns (PT w.2.2.1) n x t :: s
  else if w.2.1 = 5 then ptM (PT w.2.2.1) n x t :: s
  else if w.2.1 = 6 then (match s with
    | [] => List.replicate 1000 (vN none)
    | v :: s => vB (!tru v) :: s)
  else (match s with
    | z :: v :: s => opB ns w.2.1 v z :: s
    | _ => List.replicate 1000 (vN none))
section RSM
variable (ns : List Nd) (b : List Int32) (PT : Nat → Sm) (T : Tb)
def skM (r n x t : Nat) : Nat → List Vl
  | 0 => []
  | m + 1 => if (T.2.2.2 m).1 = r then opF ns b PT (T.2.2.2 m) n x t (skM r n x t m) else skM r n x t m
def qmM (nop r : Nat) : Ev := fun n x t => (skM ns b PT T r n x t nop).headD (vN none)
def prF (nop s : Nat) (x : Int32) : Nat → Int32
  | 0 => x
  | m + 1 => if T.2.2.1 m = s then filt ns.length (bkA (T.2.1 s).2.1) (prF nop s x m) (qmM ns b PT T nop m) else prF nop s x m
def stD (npr nop s : Nat) : Sm := fun p => prF ns b PT T nop s (mkS (fun q => onA ns (T.2.1 s).2.1 p q && psA ns b (T.2.1 s).2.1 (T.2.1 s).2.2.1 (T.2.1 s).2.2.2.1 (T.2.1 s).2.2.2.2 q) ns.length) npr
def paF (npr nop k : Nat) (x : Int32) : Nat → Int32
  | 0 => x
  | m + 1 => if (T.2.1 m).1 = k then uni (stD ns b PT T npr nop m) (paF npr nop k x m) ns.length else paF npr nop k x m
def paD (nst npr nop k : Nat) : Sm := fun n => paF ns b PT T npr nop k (one (if T.1 k = true then 0 else n)) nst
end RSM
def opW (b : List Int32) (T : Tb) (np npr : Nat) (w : Nat × Nat × Nat × Nat) : Prop := w.1 < npr ∧ w.2.1 ≤ 12 ∧ (w.2.1 = 0 → w.2.2.1 < 1000000) ∧ (w.2.1 = 1 → w.2.2.1 + w.2.2.2 ≤ b.length) ∧ (w.2.1 = 4 ∨ w.2.1 = 5 → w.2.2.1 < np ∧ (T.2.1 (T.2.2.1 w.1)).1 < w.2.2.1)
def stW (b : List Int32) (np : Nat) (w : Nat × Nat × Nat × Nat × Nat) : Prop := w.1 < np ∧ stOk b w.2.1 w.2.2.1 w.2.2.2.1 w.2.2.2.2
def TW (b : List Int32) (T : Tb) (np nst npr nop : Nat) : Prop := (∀ s, s < nst → stW b np (T.2.1 s)) ∧ (∀ r, r < npr → T.2.2.1 r < nst) ∧ (∀ o, o < nop → opW b T np npr (T.2.2.2 o))
/-- tables that grow: new steps are of path k0 or of new paths, and so on -/
def Ex (T T' : Tb) (np nst npr nop np' nst' npr' nop' k0 s0 r0 : Nat) : Prop :=
  (np ≤ np' ∧ nst ≤ nst' ∧ npr ≤ npr' ∧ nop ≤ nop') ∧ ((∀ k, k < np → T'.1 k = T.1 k) ∧ (∀ s, s < nst → T'.2.1 s = T.2.1 s) ∧ (∀ r, r < npr → T'.2.2.1 r = T.2.2.1 r) ∧ (∀ o, o < nop → T'.2.2.2 o = T.2.2.2 o)) ∧ (∀ s, nst ≤ s → s < nst' → (T'.2.1 s).1 = k0 ∨ np ≤ (T'.2.1 s).1) ∧ (∀ r, npr ≤ r → r < npr' → T'.2.2.1 r = s0 ∨ nst ≤ T'.2.2.1 r) ∧ (∀ o, nop ≤ o → o < nop' → (T'.2.2.2 o).1 = r0 ∨ npr ≤ (T'.2.2.2 o).1)
section RFX
variable {ns : List Nd} {b : List Int32} {PT PT' PT2 : Nat → Sm} {T T' T2 : Tb} {np nst npr nop np' nst' npr' nop' np2 nst2 npr2 nop2 k0 s0 r0 k1 s1 r1 : Nat}
theorem Ex.rf : Ex T T np nst npr nop np nst npr nop k0 s0 r0 := ⟨⟨Nat.le_refl _, Nat.le_refl _, Nat.le_refl _, Nat.le_refl _⟩, ⟨fun _ _ => rfl, fun _ _ => rfl, fun _ _ => rfl, fun _ _ => rfl⟩, fun s h1 h2 => by omega, fun s h1 h2 => by omega, fun s h1 h2 => by omega⟩
theorem Ex.tr (h : Ex T T' np nst npr nop np' nst' npr' nop' k0 s0 r0) (g : Ex T' T2 np' nst' npr' nop' np2 nst2 npr2 nop2 k1 s1 r1) (hk : k1 = k0 ∨ np ≤ k1) (hs : s1 = s0 ∨ nst ≤ s1) (hr : r1 = r0 ∨ npr ≤ r1) : Ex T T2 np nst npr nop np2 nst2 npr2 nop2 k0 s0 r0 := by
  obtain ⟨⟨a1, a2, a3, a4⟩, ⟨b1, b2, b3, b4⟩, c1, c2, c3⟩ := h
  obtain ⟨⟨d1, d2, d3, d4⟩, ⟨e1, e2, e3, e4⟩, f1, f2, f3⟩ := g
  refine ⟨⟨by omega, by omega, by omega, by omega⟩, ⟨fun k h => by rw [e1 k (by omega), b1 k h], fun k h => by rw [e2 k (by omega), b2 k h], fun k h => by rw [e3 k (by omega), b3 k h], fun k h => by rw [e4 k (by omega), b4 k h]⟩, fun s h1 h2 => ?_, fun s h1 h2 => ?_, fun s h1 h2 => ?_⟩
  · by_cases c : s < nst'
    · rw [e2 s c]
      exact c1 s h1 c
    · have := f1 s (by omega) h2
      omega
  · by_cases c : s < npr'
    · rw [e3 s c]
      exact c2 s h1 c
    · have := f2 s (by omega) h2
      omega
  · by_cases c : s < nop'
    · rw [e4 s c]
      exact c3 s h1 c
    · have := f3 s (by omega) h2
      omega
theorem Ex.wk (h : Ex T T' np nst npr nop np' nst' npr' nop' k0 s0 r0) (hk : k0 = k1 ∨ np ≤ k0) (hs : s0 = s1 ∨ nst ≤ s0) (hr : r0 = r1 ∨ npr ≤ r0) : Ex T T' np nst npr nop np' nst' npr' nop' k1 s1 r1 := ⟨h.1, h.2.1, fun s h1 h2 => by have := h.2.2.1 s h1 h2; omega, fun s h1 h2 => by have := h.2.2.2.1 s h1 h2; omega, fun s h1 h2 => by have := h.2.2.2.2 s h1 h2; omega⟩
theorem opF_fr {w : Nat × Nat × Nat × Nat} {n x t : Nat} {s : List Vl} (h : w.2.1 = 4 ∨ w.2.1 = 5 → PT' w.2.2.1 = PT w.2.2.1) : opF ns b PT' w n x t s = opF ns b PT w n x t s := by
  unfold opF
  by_cases c4 : w.2.1 = 4
  · rw [h (Or.inl c4)]
  · by_cases c5 : w.2.1 = 5
    · rw [h (Or.inr c5)]
    · simp only [if_neg c4, if_neg c5]
/-- the stack of a predicate whose ops are all there -/
theorem skM_fr {r n x t : Nat} (hx : Ex T T' np nst npr nop np' nst' npr' nop' k0 s0 r0) (hW : TW b T np nst npr nop) (hPT : ∀ k, k < np → PT' k = PT k) (hr : r < npr) (h0 : ¬ r = r0) : skM ns b PT' T' r n x t nop' = skM ns b PT T r n x t nop := by
  have low : ∀ m, m ≤ nop → skM ns b PT' T' r n x t m = skM ns b PT T r n x t m := by
    intro m
    induction m with
    | zero => exact fun _ => rfl
    | succ m ih =>
      intro hm
      unfold skM
      rw [ih (by omega), hx.2.1.2.2.2 m (by omega)]
      have w := hW.2.2 m (by omega)
      rw [opF_fr (PT := PT) (PT' := PT') (fun q => hPT _ (w.2.2.2.2 q).1)]
  have high : ∀ d, nop + d ≤ nop' → skM ns b PT' T' r n x t (nop + d) = skM ns b PT' T' r n x t nop := by
    intro d
    induction d with
    | zero => exact fun _ => rfl
    | succ d ih =>
      intro hd
      show (if (T'.2.2.2 (nop + d)).1 = r then _ else _) = _
      have := hx.2.2.2.2 (nop + d) (by omega) (by omega)
      rw [if_neg (by omega)]
      exact ih (by omega)
  have h := hx.1.2.2.2
  have := high (nop' - nop) (by omega)
  rw [show nop + (nop' - nop) = nop' by omega] at this
  rw [this]
  exact low nop (Nat.le_refl _)
/-- the current predicate: its old ops run as before -/
theorem skM_low {r n x t m : Nat} (hx : Ex T T' np nst npr nop np' nst' npr' nop' k0 s0 r0) (hW : TW b T np nst npr nop) (hPT : ∀ k, k < np → PT' k = PT k) (hm : m ≤ nop) : skM ns b PT' T' r n x t m = skM ns b PT T r n x t m := by
  induction m with
  | zero => rfl
  | succ m ih =>
    unfold skM
    rw [ih (by omega), hx.2.1.2.2.2 m (by omega)]
    have w := hW.2.2 m (by omega)
    rw [opF_fr (PT := PT) (PT' := PT') (fun q => hPT _ (w.2.2.2.2 q).1)]
theorem prF_fr {s lo m : Nat} {x : Int32} (hx : Ex T T' np nst npr nop np' nst' npr' nop' k0 s0 r0) (hW : TW b T np nst npr nop) (hPT : ∀ k, k < np → PT' k = PT k) (hs : s < nst) (hr0 : r0 < lo ∨ npr ≤ r0) (hc : ∀ r, r < npr → T.2.2.1 r = s → lo ≤ r) : ∀ m, m ≤ npr → prF ns b PT' T' nop' s x m = prF ns b PT T nop s x m := by
  intro m
  induction m with
  | zero => exact fun _ => rfl
  | succ m ih =>
    intro hm
    unfold prF
    rw [ih (by omega), hx.2.1.2.2.1 m (by omega), hx.2.1.2.1 s hs]
    by_cases c : T.2.2.1 m = s
    · rw [if_pos c, if_pos c]
      have := hc m (by omega) c
      have e : qmM ns b PT' T' nop' m = qmM ns b PT T nop m := by
        funext n y t
        unfold qmM
        rw [skM_fr hx hW hPT (by omega) (by omega)]
      rw [e]
    · rw [if_neg c, if_neg c]
theorem stD_fr {s lo : Nat} (hx : Ex T T' np nst npr nop np' nst' npr' nop' k0 s0 r0) (hW : TW b T np nst npr nop) (hPT : ∀ k, k < np → PT' k = PT k) (hs : s < nst) (hs0 : ¬ s = s0) (hr0 : r0 < lo ∨ npr ≤ r0) (hc : ∀ r, r < npr → T.2.2.1 r = s → lo ≤ r) : stD ns b PT' T' npr' nop' s = stD ns b PT T npr nop s := by
  funext p
  unfold stD
  rw [hx.2.1.2.1 s hs]
  generalize mkS (fun q => onA ns (T.2.1 s).2.1 p q && psA ns b (T.2.1 s).2.1 (T.2.1 s).2.2.1 (T.2.1 s).2.2.2.1 (T.2.1 s).2.2.2.2 q) ns.length = y
  have high : ∀ d, npr + d ≤ npr' → prF ns b PT' T' nop' s y (npr + d) = prF ns b PT' T' nop' s y npr := by
    intro d
    induction d with
    | zero => exact fun _ => rfl
    | succ d ih =>
      intro hd
      show (if T'.2.2.1 (npr + d) = s then _ else _) = _
      have := hx.2.2.2.1 (npr + d) (by omega) (by omega)
      rw [if_neg (by omega)]
      exact ih (by omega)
  have h := hx.1.2.2.1
  have := high (npr' - npr) (by omega)
  rw [show npr + (npr' - npr) = npr' by omega] at this
  rw [this]
  exact prF_fr (m := 0) hx hW hPT hs hr0 hc npr (Nat.le_refl _)
theorem paD_fr {k ls lo : Nat} (hx : Ex T T' np nst npr nop np' nst' npr' nop' k0 s0 r0) (hW : TW b T np nst npr nop) (hPT : ∀ k, k < np → PT' k = PT k) (hk : k < np) (hk0 : ¬ k = k0) (hs0 : s0 < ls ∨ nst ≤ s0) (hr0 : r0 < lo ∨ npr ≤ r0) (hcs : ∀ s, s < nst → (T.2.1 s).1 = k → ls ≤ s) (hcr : ∀ r, r < npr → ls ≤ T.2.2.1 r → lo ≤ r) : paD ns b PT' T' nst' npr' nop' k = paD ns b PT T nst npr nop k := by
  funext n
  unfold paD
  rw [hx.2.1.1 k hk]
  generalize one (if T.1 k = true then 0 else n) = y
  have low : ∀ m, m ≤ nst → paF ns b PT' T' npr' nop' k y m = paF ns b PT T npr nop k y m := by
    intro m
    induction m with
    | zero => exact fun _ => rfl
    | succ m ih =>
      intro hm
      unfold paF
      rw [ih (by omega), hx.2.1.2.1 m (by omega)]
      by_cases c : (T.2.1 m).1 = k
      · rw [if_pos c, if_pos c]
        have := hcs m (by omega) c
        rw [stD_fr (lo := lo) hx hW hPT (by omega) (by omega) hr0 (fun r h1 h2 => hcr r h1 (by omega))]
      · rw [if_neg c, if_neg c]
  have high : ∀ d, nst + d ≤ nst' → paF ns b PT' T' npr' nop' k y (nst + d) = paF ns b PT' T' npr' nop' k y nst := by
    intro d
    induction d with
    | zero => exact fun _ => rfl
    | succ d ih =>
      intro hd
      show (if (T'.2.1 (nst + d)).1 = k then _ else _) = _
      have := hx.2.2.1 (nst + d) (by omega) (by omega)
      rw [if_neg (by omega)]
      exact ih (by omega)
  have h := hx.1.2.1
  have := high (nst' - nst) (by omega)
  rw [show nst + (nst' - nst) = nst' by omega] at this
  rw [this]
  exact low nst (Nat.le_refl _)
end RFX
