/-! PRINTING: the one character that is wanted out of a list -/
def pick (w : Int32) : Nat → Int32 → List Int32 → Int32
  | _, ch, [] => ch
  | s, ch, c :: l => pick w (s + 1) (if Int32.ofNat s = w then c else ch) l
theorem pick_app {w : Int32} : ∀ (l1 l2 : List Int32) (s : Nat) (ch : Int32), pick w s ch (l1 ++ l2) = pick w (s + l1.length) (pick w s ch l1) l2
  | [], l2, s, ch => rfl
  | c :: l1, l2, s, ch => by
    rw [List.cons_append, List.length_cons, show s + (l1.length + 1) = s + 1 + l1.length by omega]
    unfold pick
    rw [pick_app l1 l2 (s + 1) _]
    cases l2 <;> rfl
theorem pick_out {w : Int32} : ∀ (l : List Int32) (s : Nat) (ch : Int32), (∀ i, s ≤ i → i < s + l.length → ¬ Int32.ofNat i = w) → pick w s ch l = ch
  | [], s, ch, _ => rfl
  | c :: l, s, ch, h => by
    rw [List.length_cons] at h
    unfold pick
    rw [if_neg (h s (Nat.le_refl _) (by omega))]
    exact pick_out l (s + 1) ch (fun i h1 h2 => h i (by omega) (by omega))
/-- the class's printer -/
def cP (σ : St) (w : Int32) (s : Nat) (ch : Int32) : Prop := σ.1 1314 1 = w ∧ σ.1 1314 2 = Int32.ofNat s ∧ σ.1 1314 3 = ch
def agP (σ τ : St) : Prop := (∀ a, a ≠ 1314 → τ.1 a = σ.1 a) ∧ τ.2 = σ.2
theorem agP.refl {σ : St} : agP σ σ := ⟨fun _ _ => rfl, rfl⟩
theorem agP.trans {σ τ υ : St} (h : agP σ τ) (g : agP τ υ) : agP σ υ := ⟨fun a ha => (g.1 a ha).trans (h.1 a ha), g.2.trans h.2⟩
theorem agP.c {σ τ : St} {ns : List Nd} (h : agP σ τ) (g : cTr σ ns) : cTr τ ns := g.fr (fun a _ _ => h.1 a (by omega))
def emC (ns : List Nd) (f : St → Rs) (l : List Int32) : Prop := ∀ (σ : St) (w : Int32) (s : Nat) (ch : Int32), cTr σ ns → cP σ w s ch → ∃ τ, f σ = oV τ ∧ agP σ τ ∧ cP τ w (s + l.length) (pick w s ch l)
section EMC
variable {F : Nat} {ns : List Nd}
theorem emC.nil : emC ns (fun σ => oV σ) [] := fun σ w s ch _ h => ⟨σ, rfl, agP.refl, h⟩
theorem emC.seq {f g : St → Rs} {l1 l2 : List Int32} (h1 : emC ns f l1) (h2 : emC ns g l2) : emC ns (fun σ => cV (f σ) g) (l1 ++ l2) := fun σ w s ch ht h => by
  obtain ⟨τ, a1, a2, a3⟩ := h1 σ w s ch ht h
  obtain ⟨υ, b1, b2, b3⟩ := h2 τ w _ _ (a2.c ht) a3
  refine ⟨υ, ?_, a2.trans b2, ?_⟩
  · dsimp only
    rw [a1, cVo, b1]
  · rw [List.length_append, pick_app, ← Nat.add_assoc]
    exact b3
theorem emC.cg {f g : St → Rs} {l : List Int32} (h : emC ns f l) (e : ∀ σ, cTr σ ns → g σ = f σ) : emC ns g l := fun σ w s ch ht hp => by
  obtain ⟨τ, a1, a2⟩ := h σ w s ch ht hp
  exact ⟨τ, (e σ ht).trans a1, a2⟩
theorem f82_e {c : Int32} : emC ns (f82 F c) [c] := fun σ w s ch _ h => by
  obtain ⟨h1, h2, h3⟩ := h
  unfold f82
  rw [ltE, h2, ltE, h1]
  by_cases hc : Int32.ofNat s = w
  · rw [if_pos hc, ltE, ltE, u_at, if_neg (by decide), h2, oN_p1, ltE]
    refine ⟨_, rfl, ⟨fun a ha => by rw [u_ne ha, u_ne ha], rfl⟩, ?_, u_eq, ?_⟩
    · rw [u_at, if_neg (by decide), u_at, if_neg (by decide)]
      exact h1
    · rw [u_at, if_neg (by decide), u_eq]
      unfold pick pick
      rw [if_pos hc]
  · rw [if_neg hc, ltE, oN_p1, ltE]
    refine ⟨_, rfl, ⟨fun a ha => by rw [u_ne ha], rfl⟩, ?_, u_eq, ?_⟩
    · rw [u_at, if_neg (by decide)]
      exact h1
    · rw [u_at, if_neg (by decide), h3]
      unfold pick pick
      rw [if_neg hc]
/-- a stretch of a row -/
theorem f84_3_e {r : Nat} {l : List Int32} (hr : isRw r) (hrow : ∀ σ, cTr σ ns → rowL σ r l) (hl : l.length ≤ capR r) : ∀ (m k j : Nat), j + m ≤ l.length → emC ns (fun σ => f84_3 F (k + m + 1) r (Int32.ofNat (j + m)) (Int32.ofNat j) σ) (stre l j m) := by
  have hc := capR_le r
  intro m
  induction m with
  | zero =>
    intro k j hj σ w s ch ht h
    refine ⟨σ, ?_, agP.refl, ?_⟩
    · dsimp only
      rw [f84_3.eq_2, if_neg (fun g => by have := (oN_lt (by omega) (by omega)).mp g; omega)]
    · rw [stre_0]
      exact h
  | succ m ih =>
    intro k j hj
    have e : stre l j (m + 1) = [l.getD j 0] ++ stre l (j + 1) m := by
      unfold stre
      rw [List.drop_eq_getElem_cons (show j < l.length by omega), List.take_succ_cons, getD_lt (show j < l.length by omega)]
      rfl
    have i1 := ih k (j + 1) (by omega)
    rw [show j + 1 + m = j + (m + 1) by omega] at i1
    rw [e]
    refine ((f82_e (F := F) (c := l.getD j 0)).seq i1).cg (fun σ ht => ?_)
    rw [show k + (m + 1) + 1 = (k + m + 1) + 1 by omega, f84_3.eq_2, if_pos ((oN_lt (by omega) (by omega)).mpr (by omega)), f92_r hr (hrow σ ht) hl (by omega), cIo, oN_p1]
theorem f84_e {r j m : Nat} {l : List Int32} (hF : 5000 ≤ F) (hr : isRw r) (hrow : ∀ σ, cTr σ ns → rowL σ r l) (hl : l.length ≤ capR r) (hj : j + m ≤ l.length) : emC ns (fun σ => f84 F r (Int32.ofNat j) (Int32.ofNat (j + m)) σ) (stre l j m) := by
  have hc := capR_le r
  obtain ⟨k, hk⟩ : ∃ k, F = k + m + 1 := ⟨F - m - 1, by omega⟩
  have a0 := f84_3_e (F := F) (ns := ns) hr hrow hl m k j hj
  rw [← hk] at a0
  exact a0
/-- a word -/
def wrd (k : Nat) : Nat → Nat → List Int32
  | 0, _ => []
  | m + 1, j => schr k j :: wrd k m (j + 1)
theorem f85_2_e {x : Nat} : ∀ (m k j : Nat), j + m = slen x → emC ns (fun σ => f85_2 F (k + m + 1) x (Int32.ofNat j) σ) (wrd x m j) := by
  have hx := slen_le x
  intro m
  induction m with
  | zero =>
    intro k j hj σ w s ch ht h
    refine ⟨σ, ?_, agP.refl, h⟩
    dsimp only
    rw [f85_2.eq_2]
    unfold f248
    rw [cIo, if_neg (fun g => by have := (oN_lt (by omega) (by omega)).mp g; omega)]
  | succ m ih =>
    intro k j hj
    have i1 := ih k (j + 1) (by omega)
    refine ((f82_e (F := F) (c := schr x j)).seq i1).cg (fun σ ht => ?_)
    rw [show k + (m + 1) + 1 = (k + m + 1) + 1 by omega, f85_2.eq_2]
    unfold f248 f250
    rw [cIo, if_pos ((oN_lt (by omega) (by omega)).mpr (by omega)), if_pos (oN_rg (by omega) (by omega)), cIo, oN_n (by omega), oN_p1]
theorem f85_e {x : Nat} (hF : 500 ≤ F) : emC ns (fun σ => f85 F x σ) (wrd x (slen x) 0) := by
  have hx := slen_le x
  obtain ⟨k, hk⟩ : ∃ k, F = k + slen x + 1 := ⟨F - slen x - 1, by omega⟩
  have a0 := f85_2_e (F := F) (ns := ns) (x := x) (slen x) k 0 (by omega)
  rw [← hk] at a0
  exact a0
theorem w1 : wrd 1 (slen 1) 0 = [61, 34] ∧ wrd 2 (slen 2) 0 = [38, 97, 109, 112, 59] ∧ wrd 3 (slen 3) 0 = [38, 108, 116, 59] ∧ wrd 4 (slen 4) 0 = [38, 113, 117, 111, 116, 59] ∧ wrd 5 (slen 5) 0 = [62] ∧ wrd 6 (slen 6) 0 = [47, 62] ∧ wrd 7 (slen 7) 0 = [60, 33, 45, 45] ∧ wrd 8 (slen 8) 0 = [45, 45, 62] ∧ wrd 9 (slen 9) 0 = [60, 47] := by decide +kernel
/-- a name -/
theorem f83_e {p : Nat} (hF : 5000 ≤ F) (hs : szOk ns) (hp : p < ns.length) : emC ns (fun σ => f83 F (Int32.ofNat p) σ) (nd ns p).2.2.1 := by
  have hn := hs.1.1
  have i1 : inB (Int32.ofNat p) 31 := oN_rg (by omega) (by decide)
  have i2 : inB (Int32.ofNat p) 30 := oN_rg (by omega) (by decide)
  have q1 := oN_n (show p < 2147483648 by omega)
  have k : stre (flW ns) (wF ns p) (nd ns p).2.2.1.length = (nd ns p).2.2.1 ∧ wF ns p + (nd ns p).2.2.1.length ≤ (flW ns).length := by
    have k0 := flW_name (rest := []) (nd_some hp)
    rw [List.append_nil] at k0
    exact k0
  have a0 := f84_e (F := F) (ns := ns) (r := 1014) (l := flW ns) (j := wF ns p) (m := (nd ns p).2.2.1.length) hF (Or.inr (Or.inr (Or.inl rfl))) (fun σ ht => ht.2.1) (by rw [show capR 1014 = 4096 by decide]; exact hs.2.2) k.2
  rw [k.1] at a0
  have a1 := a0.seq emC.nil
  rw [List.append_nil] at a1
  refine a1.cg (fun σ ht => ?_)
  unfold f83
  rw [if_pos i1, ltE, if_pos i1, ltE, if_pos i2, ltE]
  simp only [q1]
  rw [(ht.2.2.2.1 p (by omega)).2, (ht.1.2 p hp).2.2.1, oN_ad]
end EMC
