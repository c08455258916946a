/-! PARTS AND STEPS IN THE STORE, and what they mean -/
abbrev RT := Nat → Ev → Nat → Nat → Nat → Nat → Prop
def pch (R : RT) (σ : St) : List Ev → Value → Nat → Nat → Nat → Nat → Prop
  | [], v, lo, hi, sl, sh => v = .null ∧ lo ≤ hi ∧ sl ≤ sh
  | e :: es, v, lo, hi, sl, sh => ∃ a h s, v = .ref (1193 + a) ∧ R a e lo h sl s ∧ pch R σ es (σ.2.2.1 (1193 + a) 3) h hi s sh
def tch (R : RT) (σ : St) : List (Bool × Ev) → Value → Nat → Nat → Nat → Nat → Prop
  | [], v, lo, hi, sl, sh => v = .null ∧ lo ≤ hi ∧ sl ≤ sh
  | x :: l, v, lo, hi, sl, sh => ∃ a h s, v = .ref (1193 + a) ∧ σ.1 (1193 + a) 4 = b2i x.1 ∧ R a x.2 lo h sl s ∧ tch R σ l (σ.2.2.1 (1193 + a) 3) h hi s sh
def stR (b : List Int32) (ns : List Nd) (SM : Nat → Sm) (R : RT) (σ : St) (i : Nat) (m : Sm) (lo hi sl sh : Nat) : Prop := i = sl ∧ sl < sh ∧ SM i = m ∧ ∃ a t f k es, cSt σ (1033 + 2 * i) a t f k ∧ stOk b a t f k ∧ m = stpM ns b a t f k es ∧ pch R σ es (σ.2.2.1 (1033 + 2 * i) 4) lo hi (sl + 1) sh
def sch (S : Nat → Sm → Nat → Nat → Nat → Nat → Prop) (σ : St) : List Sm → Value → Nat → Nat → Nat → Nat → Prop
  | [], v, lo, hi, sl, sh => v = .null ∧ lo ≤ hi ∧ sl ≤ sh
  | m :: l, v, lo, hi, sl, sh => ∃ i h s, v = .ref (1033 + 2 * i) ∧ S i m lo h sl s ∧ sch S σ l (σ.2.2.1 (1033 + 2 * i) 6) h hi s sh
def ptR (b : List Int32) (ns : List Nd) (SM : Nat → Sm) (R : RT) (σ : St) (a : Nat) (m : Sm) (lo hi sl sh : Nat) : Prop := a = lo ∧ lo < hi ∧ sl ≤ sh ∧ σ.1 (1193 + a) 0 = 6 ∧ ∃ r ss, σ.1 (1193 + a) 5 = b2i r ∧ m = pthM ns r ss ∧ sch (stR b ns SM R σ) σ ss (σ.2.2.1 (1193 + a) 6) (lo + 1) hi sl sh
def cas (b : List Int32) (ns : List Nd) (SM : Nat → Sm) (R : RT) (σ : St) (a : Nat) (e : Ev) (lo hi sl sh : Nat) : Prop :=
  (σ.1 (1193 + a) 0 = 0 ∧ a = lo ∧ ∃ v : Nat, σ.2.1 (1193 + a) 8 = Int64.ofInt v ∧ e = fun (_ _ _ : Nat) => vN (some (v : Int)))
  ∨ (σ.1 (1193 + a) 0 = 1 ∧ a = lo ∧ e = fun (_ x _ : Nat) => vN (some (x : Int)))
  ∨ (σ.1 (1193 + a) 0 = 2 ∧ a = lo ∧ e = fun (_ _ x : Nat) => vN (some (x : Int)))
  ∨ (σ.1 (1193 + a) 0 = 3 ∧ a = lo ∧ ∃ c m, σ.2.2.1 (1193 + a) 1 = .ref (1193 + c) ∧ ptR b ns SM R σ c m (lo + 1) hi sl sh ∧ smOK ns m ∧ e = ctM ns m)
  ∨ (σ.1 (1193 + a) 0 = 4 ∧ ∃ c e0 l s, σ.2.2.1 (1193 + a) 1 = .ref (1193 + c) ∧ σ.1 (1193 + c) 4 = 0 ∧ R c e0 lo a sl s ∧ tch R σ l (σ.2.2.1 (1193 + c) 3) (a + 1) hi s sh ∧ e = smM ns ((false, e0) :: l))
  ∨ (σ.1 (1193 + a) 0 = 5 ∧ a = lo ∧ ∃ f z, f ≤ z ∧ z ≤ b.length ∧ σ.1 (1193 + a) 10 = Int32.ofNat f ∧ σ.1 (1193 + a) 11 = Int32.ofNat z ∧ e = fun (_ _ _ : Nat) => vT (stre b f (z - f)))
  ∨ (∃ m, ptR b ns SM R σ a m lo hi sl sh ∧ e = ptM m)
  ∨ (σ.1 (1193 + a) 0 = 7 ∧ a = lo ∧ ∃ c e1, σ.2.2.1 (1193 + a) 1 = .ref (1193 + c) ∧ R c e1 (lo + 1) hi sl sh ∧ e = ntM e1)
  ∨ (∃ o, o < 4 ∧ σ.1 (1193 + a) 0 = Int32.ofNat (8 + o) ∧ ∃ c d e1 e2 s, σ.2.2.1 (1193 + a) 1 = .ref (1193 + c) ∧ σ.2.2.1 (1193 + a) 2 = .ref (1193 + d) ∧ R c e1 lo a sl s ∧ R d e2 (a + 1) hi s sh ∧ e = cmM ns o e1 e2)
def rep (b : List Int32) (ns : List Nd) (SM : Nat → Sm) (σ : St) : Nat → RT
  | 0 => fun _ _ _ _ _ _ => False
  | k + 1 => fun a e lo hi sl sh => (lo ≤ a ∧ a < hi ∧ sl ≤ sh) ∧ evOK ns e ∧ cas b ns SM (rep b ns SM σ k) σ a e lo hi sl sh
theorem rep_le {b : List Int32} {ns : List Nd} {SM : Nat → Sm} {σ : St} {k a lo hi sl sh : Nat} {e : Ev} (h : rep b ns SM σ k a e lo hi sl sh) : (lo ≤ a ∧ a < hi ∧ sl ≤ sh) ∧ evOK ns e := by
  cases k with
  | zero => exact h.elim
  | succ k => exact ⟨h.1, h.2.1⟩
section MAP
variable {R R' : RT} {σ τ : St}
theorem pch_le (hR : ∀ a e l h s t, R a e l h s t → l ≤ a ∧ a < h ∧ s ≤ t) : ∀ (es : List Ev) (v : Value) (lo hi sl sh : Nat), pch R σ es v lo hi sl sh → lo ≤ hi ∧ sl ≤ sh
  | [], _, _, _, _, _, h => h.2
  | _ :: es, _, _, _, _, _, h => by
    obtain ⟨a, h1, s, _, g, k⟩ := h
    have := hR _ _ _ _ _ _ g
    have := pch_le hR es _ _ _ _ _ k
    omega
theorem tch_le (hR : ∀ a e l h s t, R a e l h s t → l ≤ a ∧ a < h ∧ s ≤ t) : ∀ (es : List (Bool × Ev)) (v : Value) (lo hi sl sh : Nat), tch R σ es v lo hi sl sh → lo ≤ hi ∧ sl ≤ sh
  | [], _, _, _, _, _, h => h.2
  | _ :: es, _, _, _, _, _, h => by
    obtain ⟨a, h1, s, _, _, g, k⟩ := h
    have := hR _ _ _ _ _ _ g
    have := tch_le hR es _ _ _ _ _ k
    omega
theorem sch_le {S : Nat → Sm → Nat → Nat → Nat → Nat → Prop} (hR : ∀ i m l h s t, S i m l h s t → l ≤ h ∧ s ≤ i ∧ i < t) : ∀ (es : List Sm) (v : Value) (lo hi sl sh : Nat), sch S σ es v lo hi sl sh → lo ≤ hi ∧ sl ≤ sh
  | [], _, _, _, _, _, h => h.2
  | _ :: es, _, _, _, _, _, h => by
    obtain ⟨a, h1, s, _, g, k⟩ := h
    have := hR _ _ _ _ _ _ g
    have := sch_le hR es _ _ _ _ _ k
    omega
theorem pch_map (hR : ∀ a e l h s t, R a e l h s t → l ≤ a ∧ a < h ∧ s ≤ t) : ∀ (es : List Ev) (v : Value) (lo hi sl sh : Nat), pch R σ es v lo hi sl sh → (∀ a e l h s t, lo ≤ l → h ≤ hi → sl ≤ s → t ≤ sh → R a e l h s t → R' a e l h s t ∧ τ.2.2.1 (1193 + a) 3 = σ.2.2.1 (1193 + a) 3) → pch R' τ es v lo hi sl sh
  | [], _, _, _, _, _, h, _ => h
  | _ :: es, _, lo, hi, sl, sh, h, H => by
    obtain ⟨a, h1, s, hv, g, k⟩ := h
    have b1 := hR _ _ _ _ _ _ g
    have b2 := pch_le hR es _ _ _ _ _ k
    have x := H a _ lo h1 sl s (Nat.le_refl _) b2.1 (Nat.le_refl _) b2.2 g
    refine ⟨a, h1, s, hv, x.1, ?_⟩
    rw [x.2]
    exact pch_map hR es _ _ _ _ _ k (fun a e l h s t q1 q2 q3 q4 => H a e l h s t (by omega) q2 (by omega) q4)
theorem tch_map (hR : ∀ a e l h s t, R a e l h s t → l ≤ a ∧ a < h ∧ s ≤ t) : ∀ (es : List (Bool × Ev)) (v : Value) (lo hi sl sh : Nat), tch R σ es v lo hi sl sh → (∀ a e l h s t, lo ≤ l → h ≤ hi → sl ≤ s → t ≤ sh → R a e l h s t → R' a e l h s t ∧ τ.2.2.1 (1193 + a) 3 = σ.2.2.1 (1193 + a) 3 ∧ τ.1 (1193 + a) 4 = σ.1 (1193 + a) 4) → tch R' τ es v lo hi sl sh
  | [], _, _, _, _, _, h, _ => h
  | _ :: es, _, lo, hi, sl, sh, h, H => by
    obtain ⟨a, h1, s, hv, h4, g, k⟩ := h
    have b1 := hR _ _ _ _ _ _ g
    have b2 := tch_le hR es _ _ _ _ _ k
    have x := H a _ lo h1 sl s (Nat.le_refl _) b2.1 (Nat.le_refl _) b2.2 g
    refine ⟨a, h1, s, hv, by rw [x.2.2]; exact h4, x.1, ?_⟩
    rw [x.2.1]
    exact tch_map hR es _ _ _ _ _ k (fun a e l h s t q1 q2 q3 q4 => H a e l h s t (by omega) q2 (by omega) q4)
theorem sch_map {S S' : Nat → Sm → Nat → Nat → Nat → Nat → Prop} (hR : ∀ i m l h s t, S i m l h s t → l ≤ h ∧ s ≤ i ∧ i < t) : ∀ (es : List Sm) (v : Value) (lo hi sl sh : Nat), sch S σ es v lo hi sl sh → (∀ i m l h s t, lo ≤ l → h ≤ hi → sl ≤ s → t ≤ sh → S i m l h s t → S' i m l h s t ∧ τ.2.2.1 (1033 + 2 * i) 6 = σ.2.2.1 (1033 + 2 * i) 6) → sch S' τ es v lo hi sl sh
  | [], _, _, _, _, _, h, _ => h
  | _ :: es, _, lo, hi, sl, sh, h, H => by
    obtain ⟨a, h1, s, hv, g, k⟩ := h
    have b1 := hR _ _ _ _ _ _ g
    have b2 := sch_le hR es _ _ _ _ _ k
    have x := H a _ lo h1 sl s (Nat.le_refl _) b2.1 (Nat.le_refl _) b2.2 g
    refine ⟨a, h1, s, hv, x.1, ?_⟩
    rw [x.2]
    exact sch_map hR es _ _ _ _ _ k (fun a e l h s t q1 q2 q3 q4 => H a e l h s t (by omega) q2 (by omega) q4)
end MAP
/-! stores that agree -/
def eqR (σ τ : St) (i : Nat) : Prop := (∀ j, ¬ j = 9 → ¬ j = 4 → τ.1 (1193 + i) j = σ.1 (1193 + i) j) ∧ (∀ j, ¬ j = 3 → τ.2.2.1 (1193 + i) j = σ.2.2.1 (1193 + i) j) ∧ (σ.1 (1193 + i) 0 = 0 → τ.2.1 (1193 + i) 8 = σ.2.1 (1193 + i) 8)
def eqP (σ τ : St) (i : Nat) : Prop := eqR σ τ i ∧ τ.1 (1193 + i) 4 = σ.1 (1193 + i) 4 ∧ τ.2.2.1 (1193 + i) 3 = σ.2.2.1 (1193 + i) 3
def eqQ (SM SM' : Nat → Sm) (σ τ : St) (i : Nat) : Prop := (∀ j, ¬ j = 7 → τ.1 (1033 + 2 * i) j = σ.1 (1033 + 2 * i) j) ∧ (∀ j, ¬ j = 6 → τ.2.2.1 (1033 + 2 * i) j = σ.2.2.1 (1033 + 2 * i) j) ∧ SM' i = SM i
def eqS (SM SM' : Nat → Sm) (σ τ : St) (i : Nat) : Prop := eqQ SM SM' σ τ i ∧ τ.2.2.1 (1033 + 2 * i) 6 = σ.2.2.1 (1033 + 2 * i) 6
section RFR
variable {b : List Int32} {ns : List Nd} {SM SM' : Nat → Sm} {σ τ : St}
theorem stR_le {k i lo hi sl sh : Nat} {m : Sm} (h : stR b ns SM (rep b ns SM σ k) σ i m lo hi sl sh) : lo ≤ hi ∧ sl ≤ i ∧ i < sh := by
  obtain ⟨h1, h2, _, a, t, f, n, es, _, _, _, h3⟩ := h
  have := pch_le (fun a e l h s t g => (rep_le g).1) es _ _ _ _ _ h3
  omega
theorem ptR_le {k a lo hi sl sh : Nat} {m : Sm} (h : ptR b ns SM (rep b ns SM σ k) σ a m lo hi sl sh) : a = lo ∧ lo < hi ∧ sl ≤ sh := ⟨h.1, h.2.1, h.2.2.1⟩
def frK (b : List Int32) (ns : List Nd) (SM SM' : Nat → Sm) (σ τ : St) (k : Nat) : Prop := ∀ a e lo hi sl sh, rep b ns SM σ k a e lo hi sl sh → eqR σ τ a → (∀ i, lo ≤ i → i < hi → ¬ i = a → eqP σ τ i) → (∀ i, sl ≤ i → i < sh → eqS SM SM' σ τ i) → rep b ns SM' τ k a e lo hi sl sh
theorem pch_fr {k : Nat} (H : frK b ns SM SM' σ τ k) {es : List Ev} {v : Value} {lo hi sl sh : Nat} (h : pch (rep b ns SM σ k) σ es v lo hi sl sh) (hp : ∀ i, lo ≤ i → i < hi → eqP σ τ i) (hs : ∀ i, sl ≤ i → i < sh → eqS SM SM' σ τ i) : pch (rep b ns SM' τ k) τ es v lo hi sl sh :=
  pch_map (fun a e l h s t g => (rep_le g).1) es v lo hi sl sh h (fun a e l h s t q1 q2 q3 q4 g => by
    have r := (rep_le g).1
    have p := hp a (by omega) (by omega)
    exact ⟨H a e l h s t g p.1 (fun i i1 i2 _ => hp i (by omega) (by omega)) (fun i i1 i2 => hs i (by omega) (by omega)), p.2.2⟩)
theorem tch_fr {k : Nat} (H : frK b ns SM SM' σ τ k) {es : List (Bool × Ev)} {v : Value} {lo hi sl sh : Nat} (h : tch (rep b ns SM σ k) σ es v lo hi sl sh) (hp : ∀ i, lo ≤ i → i < hi → eqP σ τ i) (hs : ∀ i, sl ≤ i → i < sh → eqS SM SM' σ τ i) : tch (rep b ns SM' τ k) τ es v lo hi sl sh :=
  tch_map (fun a e l h s t g => (rep_le g).1) es v lo hi sl sh h (fun a e l h s t q1 q2 q3 q4 g => by
    have r := (rep_le g).1
    have p := hp a (by omega) (by omega)
    exact ⟨H a e l h s t g p.1 (fun i i1 i2 _ => hp i (by omega) (by omega)) (fun i i1 i2 => hs i (by omega) (by omega)), p.2.2, p.2.1⟩)
theorem stR_fr {k i : Nat} (H : frK b ns SM SM' σ τ k) {m : Sm} {lo hi sl sh : Nat} (h : stR b ns SM (rep b ns SM σ k) σ i m lo hi sl sh) (hq : eqQ SM SM' σ τ i) (hp : ∀ i, lo ≤ i → i < hi → eqP σ τ i) (hs : ∀ j, sl < j → j < sh → eqS SM SM' σ τ j) : stR b ns SM' (rep b ns SM' τ k) τ i m lo hi sl sh := by
  obtain ⟨h1, h2, h3, a, t, f, n, es, ⟨c1, c2, c3, c4⟩, h5, h6, h7⟩ := h
  refine ⟨h1, h2, by rw [hq.2.2]; exact h3, a, t, f, n, es, ⟨by rw [hq.2.1 0 (by decide)]; exact c1, by rw [hq.1 1 (by decide)]; exact c2, by rw [hq.1 2 (by decide)]; exact c3, by rw [hq.1 3 (by decide)]; exact c4⟩, h5, h6, ?_⟩
  rw [hq.2.1 4 (by decide)]
  exact pch_fr H h7 hp (fun j j1 j2 => hs j (by omega) j2)
theorem sch_fr {k : Nat} (H : frK b ns SM SM' σ τ k) {ss : List Sm} {v : Value} {lo hi sl sh : Nat} (h : sch (stR b ns SM (rep b ns SM σ k) σ) σ ss v lo hi sl sh) (hp : ∀ i, lo ≤ i → i < hi → eqP σ τ i) (hs : ∀ i, sl ≤ i → i < sh → eqS SM SM' σ τ i) : sch (stR b ns SM' (rep b ns SM' τ k) τ) τ ss v lo hi sl sh :=
  sch_map (fun i m l h s t g => stR_le g) ss v lo hi sl sh h (fun i m l h s t q1 q2 q3 q4 g => by
    have r := stR_le g
    have p := hs i (by omega) (by omega)
    exact ⟨stR_fr H g p.1 (fun i i1 i2 => hp i (by omega) (by omega)) (fun i i1 i2 => hs i (by omega) (by omega)), p.2⟩)
theorem ptR_fr {k a : Nat} (H : frK b ns SM SM' σ τ k) {m : Sm} {lo hi sl sh : Nat} (h : ptR b ns SM (rep b ns SM σ k) σ a m lo hi sl sh) (hr : eqR σ τ a) (hp : ∀ i, lo ≤ i → i < hi → ¬ i = a → eqP σ τ i) (hs : ∀ i, sl ≤ i → i < sh → eqS SM SM' σ τ i) : ptR b ns SM' (rep b ns SM' τ k) τ a m lo hi sl sh := by
  obtain ⟨h1, h2, h0, h3, r, ss, h4, h5, h6⟩ := h
  refine ⟨h1, h2, h0, by rw [hr.1 0 (by decide) (by decide)]; exact h3, r, ss, by rw [hr.1 5 (by decide) (by decide)]; exact h4, h5, ?_⟩
  rw [hr.2.1 6 (by decide)]
  exact sch_fr H h6 (fun i i1 i2 => hp i (by omega) i2 (by omega)) hs
theorem rep_fr : ∀ k, frK b ns SM SM' σ τ k
  | 0 => fun a e lo hi sl sh h _ _ _ => h.elim
  | k + 1 => by
    have H : frK b ns SM SM' σ τ k := rep_fr k
    intro a e lo hi sl sh h hr hp hs
    obtain ⟨h1, h2, h3⟩ := h
    have e0 : τ.1 (1193 + a) 0 = σ.1 (1193 + a) 0 := hr.1 0 (by decide) (by decide)
    have e1 : τ.2.2.1 (1193 + a) 1 = σ.2.2.1 (1193 + a) 1 := hr.2.1 1 (by decide)
    have e2 : τ.2.2.1 (1193 + a) 2 = σ.2.2.1 (1193 + a) 2 := hr.2.1 2 (by decide)
    refine ⟨h1, h2, ?_⟩
    unfold cas
    rw [e0, e1, e2]
    rcases h3 with ⟨g, g1, v, g2, g3⟩ | h3 | h3 | ⟨g, g1, c, m, g2, g3, g4⟩ | ⟨g, c, e0, l, s, g1, g2, g3, g4, g5⟩ | ⟨g, g1, f, z, g2, g3, g4, g5, g6⟩ | ⟨m, g1, g2⟩ | ⟨g, g1, c, e1, g2, g3, g4⟩ | ⟨o, ho, g, c, d, e1, e2, s, g1, g2, g3, g4, g5⟩
    · exact Or.inl ⟨g, g1, v, by rw [hr.2.2 g]; exact g2, g3⟩
    · exact Or.inr (Or.inl h3)
    · exact Or.inr (Or.inr (Or.inl h3))
    · refine Or.inr (Or.inr (Or.inr (Or.inl ⟨g, g1, c, m, g2, ?_, g4⟩)))
      have q := ptR_le g3
      have p := hp c (by omega) (by omega) (by omega)
      exact ptR_fr H g3 p.1 (fun i i1 i2 _ => hp i (by omega) i2 (by omega)) hs
    · refine Or.inr (Or.inr (Or.inr (Or.inr (Or.inl ⟨g, c, e0, l, s, g1, ?_⟩))))
      have q := (rep_le g3).1
      have q2 := tch_le (fun a e l h s t g => (rep_le g).1) l _ _ _ _ _ g4
      have p := hp c (by omega) (by omega) (by omega)
      refine ⟨by rw [p.2.1]; exact g2, H _ _ _ _ _ _ g3 p.1 (fun i i1 i2 _ => hp i (by omega) (by omega) (by omega)) (fun i i1 i2 => hs i (by omega) (by omega)), ?_, g5⟩
      rw [p.2.2]
      exact tch_fr H g4 (fun i i1 i2 => hp i (by omega) (by omega) (by omega)) (fun i i1 i2 => hs i (by omega) (by omega))
    · refine Or.inr (Or.inr (Or.inr (Or.inr (Or.inr (Or.inl ⟨g, g1, f, z, g2, g3, ?_, ?_, g6⟩)))))
      · rw [hr.1 10 (by decide) (by decide)]
        exact g4
      · rw [hr.1 11 (by decide) (by decide)]
        exact g5
    · refine Or.inr (Or.inr (Or.inr (Or.inr (Or.inr (Or.inr (Or.inl ⟨m, ?_, g2⟩))))))
      exact ptR_fr H g1 hr hp hs
    · refine Or.inr (Or.inr (Or.inr (Or.inr (Or.inr (Or.inr (Or.inr (Or.inl ⟨g, g1, c, e1, g2, ?_, g4⟩)))))))
      have q := (rep_le g3).1
      have p := hp c (by omega) (by omega) (by omega)
      exact H _ _ _ _ _ _ g3 p.1 (fun i i1 i2 _ => hp i (by omega) (by omega) (by omega)) hs
    · refine Or.inr (Or.inr (Or.inr (Or.inr (Or.inr (Or.inr (Or.inr (Or.inr ⟨o, ho, g, c, d, e1, e2, s, g1, g2, ?_, ?_, g5⟩)))))))
      · have q := (rep_le g3).1
        have q2 := (rep_le g4).1
        have p := hp c (by omega) (by omega) (by omega)
        exact H _ _ _ _ _ _ g3 p.1 (fun i i1 i2 _ => hp i (by omega) (by omega) (by omega)) (fun i i1 i2 => hs i (by omega) (by omega))
      · have q := (rep_le g3).1
        have q2 := (rep_le g4).1
        have p := hp d (by omega) (by omega) (by omega)
        exact H _ _ _ _ _ _ g4 p.1 (fun i i1 i2 _ => hp i (by omega) (by omega) (by omega)) (fun i i1 i2 => hs i (by omega) (by omega))
/-- a part that means e means it at every greater height -/
theorem stR_up {k i lo hi sl sh : Nat} {m : Sm} (H : ∀ a e lo hi sl sh, rep b ns SM σ k a e lo hi sl sh → rep b ns SM σ (k + 1) a e lo hi sl sh) (h : stR b ns SM (rep b ns SM σ k) σ i m lo hi sl sh) : stR b ns SM (rep b ns SM σ (k + 1)) σ i m lo hi sl sh := by
  obtain ⟨h1, h2, h3, a, t, f, n, es, h4, h5, h6, h7⟩ := h
  exact ⟨h1, h2, h3, a, t, f, n, es, h4, h5, h6, pch_map (fun a e l h s t g => (rep_le g).1) es _ _ _ _ _ h7 (fun a e l h s t _ _ _ _ g => ⟨H _ _ _ _ _ _ g, rfl⟩)⟩
theorem ptR_up {k a lo hi sl sh : Nat} {m : Sm} (H : ∀ a e lo hi sl sh, rep b ns SM σ k a e lo hi sl sh → rep b ns SM σ (k + 1) a e lo hi sl sh) (h : ptR b ns SM (rep b ns SM σ k) σ a m lo hi sl sh) : ptR b ns SM (rep b ns SM σ (k + 1)) σ a m lo hi sl sh := by
  obtain ⟨h1, h2, h0, h3, r, ss, h4, h5, h6⟩ := h
  exact ⟨h1, h2, h0, h3, r, ss, h4, h5, sch_map (fun i m l h s t g => stR_le g) ss _ _ _ _ _ h6 (fun i m l h s t _ _ _ _ g => ⟨stR_up H g, rfl⟩)⟩
theorem rep_up : ∀ k a e lo hi sl sh, rep b ns SM σ k a e lo hi sl sh → rep b ns SM σ (k + 1) a e lo hi sl sh
  | 0, _, _, _, _, _, _, h => h.elim
  | k + 1, a, e, lo, hi, sl, sh, h => by
    have H := rep_up k
    obtain ⟨h1, h2, h3⟩ := h
    refine ⟨h1, h2, ?_⟩
    rcases h3 with h3 | h3 | h3 | ⟨g, g1, c, m, g2, g3, g4⟩ | ⟨g, c, e0, l, s, g1, g2, g3, g4, g5⟩ | h3 | ⟨m, g1, g2⟩ | ⟨g, g1, c, e1, g2, g3, g4⟩ | ⟨o, ho, g, c, d, e1, e2, s, g1, g2, g3, g4, g5⟩
    · exact Or.inl h3
    · exact Or.inr (Or.inl h3)
    · exact Or.inr (Or.inr (Or.inl h3))
    · exact Or.inr (Or.inr (Or.inr (Or.inl ⟨g, g1, c, m, g2, ptR_up H g3, g4⟩)))
    · exact Or.inr (Or.inr (Or.inr (Or.inr (Or.inl ⟨g, c, e0, l, s, g1, g2, H _ _ _ _ _ _ g3, tch_map (fun a e l h s t g => (rep_le g).1) l _ _ _ _ _ g4 (fun a e l h s t _ _ _ _ g => ⟨H _ _ _ _ _ _ g, rfl, rfl⟩), g5⟩))))
    · exact Or.inr (Or.inr (Or.inr (Or.inr (Or.inr (Or.inl h3)))))
    · exact Or.inr (Or.inr (Or.inr (Or.inr (Or.inr (Or.inr (Or.inl ⟨m, ptR_up H g1, g2⟩))))))
    · exact Or.inr (Or.inr (Or.inr (Or.inr (Or.inr (Or.inr (Or.inr (Or.inl ⟨g, g1, c, e1, g2, H _ _ _ _ _ _ g3, g4⟩)))))))
    · exact Or.inr (Or.inr (Or.inr (Or.inr (Or.inr (Or.inr (Or.inr (Or.inr ⟨o, ho, g, c, d, e1, e2, s, g1, g2, H _ _ _ _ _ _ g3, H _ _ _ _ _ _ g4, g5⟩)))))))
end RFR
