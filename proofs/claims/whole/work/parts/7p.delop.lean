/-! DELETING, both sides -/
section DLO
variable {F p : Nat} {ns : List Nd} {σ : St}
theorem oN_sub1 (h : 0 < p) : Int32.ofNat p - 1 = Int32.ofNat (p - 1) := by
  rw [show (1 : Int32) = Int32.ofNat 1 from rfl, oN_sb (by omega)]
/-- may p be deleted -/
abbrev dlB (ns : List Nd) (p : Nat) : Prop := p = 0 ∨ ((nd ns p).1 = 1 ∧ par ns p = 0)
theorem f27_60_e (hF : 500 ≤ F) (h : cTr σ ns) (hs : szOk ns) (hw : wf ns) (h0 : 0 < p) (hp : p < ns.length) : ∃ τ, f27_60 F (Int32.ofNat p) σ = oI (Int32.ofNat (ns.length - (jnO (dlL ns p) (p - 1)).length)) τ ∧ agL σ τ ∧ (∀ a, a = 1001 ∨ a = 1002 → τ.1 a = σ.1 a) ∧ cTr τ (jnO (dlL ns p) (p - 1)) ∧ τ.1 1000 7 = 0 := by
  have hz := siz_le hp
  have hn := hs.1.1
  have i2 : inB (Int32.ofNat p) 30 := oN_rg (by omega) (by decide)
  have jl := jnO_len (D := dlL ns p) (j := p - 1)
  have dlen : (dlL ns p).length = ns.length - (siz ns p + 1) := del_len (by omega)
  unfold f27_60
  rw [ltE, h.1.1, if_pos i2, ltE, oN_n (by omega), (h.2.2.2.2 p hp).2, oN_p1]
  obtain ⟨τ1, a1, a2, a3⟩ := f141_e (F := F) (n := siz ns p + 1) hF h hs (by omega)
  rw [a1, cVo, oN_sub1 h0]
  have a3 : cTr τ1 (dlL ns p) := a3
  have s1 : szOk (dlL ns p) := hs.del (by omega)
  obtain ⟨τ2, b1, b2, b3, b4⟩ := f140_e (F := F) (j := p - 1) hF a3 s1 (by omega) (dl_nm hw h0 hp)
  rw [b1, cIo, ltE, ltE]
  have c4 : cTr (uI τ2 1000 7 0) (jnO (dlL ns p) (p - 1)) := b3.fr (fun a h1 h2 => by rw [u_ne (by omega)])
  have ac := a2.trans b2
  refine ⟨_, ?_, ac.l.uI (by decide), fun a ha => ?_, c4, u_eq⟩
  · rw [c4.1.1, oN_sb (by omega)]
  · rw [u_ne (by omega)]
    exact ac.1 a (by omega)
theorem par0 (hw : wf ns) (h0 : 0 < p) (hp : p < ns.length) (hn : ns.length ≤ 30) : par ns p = 0 ↔ ∃ q, q < p ∧ par ns p = Int32.ofNat q ∧ (nd ns q).1 = 0 := by
  obtain ⟨q, q1, q2, q3, q4⟩ := par_pos hw h0 hp
  constructor
  · intro g
    refine ⟨0, h0, by rw [g]; rfl, by rw [hw.2.1]⟩
  · rintro ⟨r, r1, r2, r3⟩
    by_cases c : r = 0
    · rw [r2, c]
      rfl
    · have := (nd_pos hw (show 0 < r by omega) (by omega)).1
      omega
theorem f27_e (hF : 500 ≤ F) (h : cTr σ ns) (hs : szOk ns) (hw : wf ns) (hp : p < ns.length) : (dlB ns p → f27 F (Int32.ofNat p) σ = oT 11 σ) ∧ (¬ dlB ns p → f27 F (Int32.ofNat p) σ = f27_60 F (Int32.ofNat p) σ) := by
  have hn := hs.1.1
  have b := (hs.1.2 p hp).2
  have i2 : inB (Int32.ofNat p) 30 := oN_rg (by omega) (by decide)
  have q1 := oN_n (show p < 2147483648 by omega)
  unfold f27
  rw [f128_y h hn hp, cIo, if_neg (show ¬ (1 : Int32) = 0 by decide)]
  by_cases c0 : p = 0
  · rw [c0, if_pos (show Int32.ofNat 0 = 0 from rfl)]
    exact ⟨fun _ => rfl, fun g => absurd (Or.inl rfl) g⟩
  · rw [if_neg (fun g => c0 ((oE0 (by omega)).mp g)), if_pos i2, ltE]
    simp only [q1]
    rw [(h.1.2 p hp).1]
    by_cases c1 : (nd ns p).1 = 1
    · rw [c1, if_pos (by rfl), if_pos i2, ltE, (h.2.2.2.2 p hp).1]
      by_cases cp : par ns p = 0
      · rw [if_pos cp]
        exact ⟨fun _ => rfl, fun g => absurd (Or.inr ⟨c1, cp⟩) g⟩
      · rw [if_neg cp]
        exact ⟨fun g => by rcases g with g | g; exact absurd g c0; exact absurd g.2 cp, fun _ => rfl⟩
    · rw [if_neg (fun g => c1 ((oE1 (by omega)).mp g))]
      exact ⟨fun g => by rcases g with g | g; exact absurd g c0; exact absurd g.1 c1, fun _ => rfl⟩
/-- the reference's loop -/
theorem f186_77_e {σ : St} (hF : 5000 ≤ F) (h : mTr σ ns) (hw : wf ns) (hl : lvOk ns) (ht : tot ns ≤ 4300) (h0 : 0 < p) (hp : p < ns.length) (h13 : σ.1 1315 13 = 0) (h14 : σ.1 1315 14 = 0) : ∃ τ, f186_77 F F (Int32.ofNat p) (Int32.ofNat ns.length) (Int32.ofNat (p + siz ns p)) 0 σ = oI (Int32.ofNat (ns.length - (jnO (dlL ns p) (p - 1)).length)) τ ∧ agQ σ τ ∧ mTr τ (jnO (dlL ns p) (p - 1)) ∧ τ.1 1315 34 = 0 ∧ (∀ j, j ≠ 3 → j ≠ 13 → j ≠ 14 → j ≠ 34 → τ.1 1315 j = σ.1 1315 j) ∧ τ.1 1316 = σ.1 1316 := by
  have hl1 := hl.1
  have hz := siz_le hp
  have jl := jnO_len (D := dlL ns p) (j := p - 1)
  have dlen : (dlL ns p).length = ns.length - (siz ns p + 1) := del_len (by omega)
  have o0 : oldT σ ns := ⟨h.1, fun i hi => (h.2 i hi).1⟩
  have pl := pF_le (ns := ns) (Nat.le_refl _)
  have pp : pF ns p ≤ pF ns ns.length := by
    unfold pF
    have h1 := wF_le (ns := ns) (show p ≤ ns.length by omega)
    have h2 := tF_le (ns := ns) (show p ≤ ns.length by omega)
    omega
  have p00 : pF ns 0 = 0 := rfl
  -- the nodes before p
  have G1 := keep (F := F) (s0 := 0) (s1 := p) (ns := ns) (G := fun k q σ => f186_77 F k (Int32.ofNat p) (Int32.ofNat ns.length) (Int32.ofNat (p + siz ns p)) (Int32.ofNat q) σ) hF hw hl (fun k q σ τ _ hq ho _ hf => by
    rw [f186_77.eq_2, ltE, ho.1, if_pos ((oN_lt (by omega) (by omega)).mpr (by omega)), if_pos ((oN_lt (by omega) (by omega)).mpr hq)]
    unfold f186_98 f186_104
    rw [hf, cVo, oN_p1]) (by omega) p (F - p) 0 0 [] σ (Nat.le_refl _) (by omega) o0 (nTr_nil h13 h14) good_nil (by rw [List.length_nil]; omega) (by rw [show 0 + p = p by omega]; omega)
  rw [Nat.zero_add, List.drop_zero, show F - p + p = F by omega] at G1
  obtain ⟨σ1, e1, a1, a2, a3, a4, a5, a6⟩ := G1
  have f1 : (ns.take p).foldl addN [] = ns.take p := by
    rw [fold_A (ns.take p) [] (fun _ g => absurd g.2.1 (by decide)) (fun i hi => by
      rw [List.length_take] at hi
      rw [ndTake, ndTake, if_pos (by omega), if_pos (by omega)]
      exact hw.2.2.1.nj i (by omega)), List.nil_append]
  rw [f1] at a3 a5 a6
  have a1' : f186_77 F F (Int32.ofNat p) (Int32.ofNat ns.length) (Int32.ofNat (p + siz ns p)) 0 σ = f186_77 F (F - p) (Int32.ofNat p) (Int32.ofNat ns.length) (Int32.ofNat (p + siz ns p)) (Int32.ofNat p) σ1 := a1
  have o1 := o0.fr a2
  -- the nodes that go
  have sk : ∀ (m k q : Nat), p ≤ q → q + m = p + siz ns p + 1 → f186_77 F (k + m) (Int32.ofNat p) (Int32.ofNat ns.length) (Int32.ofNat (p + siz ns p)) (Int32.ofNat q) σ1 = f186_77 F k (Int32.ofNat p) (Int32.ofNat ns.length) (Int32.ofNat (p + siz ns p)) (Int32.ofNat (p + siz ns p + 1)) σ1 := by
    intro m
    induction m with
    | zero =>
      intro k q h1 h2
      rw [Nat.add_zero, show q = p + siz ns p + 1 by omega]
    | succ m ih =>
      intro k q h1 h2
      rw [show k + (m + 1) = (k + m) + 1 by omega, f186_77.eq_2, ltE, o1.1, if_pos ((oN_lt (by omega) (by omega)).mpr (by omega)), if_neg (fun g => by have := (oN_lt (by omega) (by omega)).mp g; omega), if_neg (fun g => by have := (oN_lt (by omega) (by omega)).mp g; omega)]
      unfold f186_104
      rw [oN_p1, ih k (q + 1) (by omega) (by omega)]
  have sk1 := sk (siz ns p + 1) (F - p - (siz ns p + 1)) p (Nat.le_refl _) (by omega)
  rw [show F - p - (siz ns p + 1) + (siz ns p + 1) = F - p by omega] at sk1
  -- the nodes behind
  have ps : pF ns (p + siz ns p + 1) ≤ pF ns ns.length := by
    unfold pF
    have h1 := wF_le (ns := ns) hz
    have h2 := tF_le (ns := ns) hz
    omega
  have ppz : pF ns p ≤ pF ns (p + siz ns p + 1) := by
    unfold pF
    have h1 := wF_le (ns := ns) (show p ≤ p + siz ns p + 1 by omega)
    have h2 := tF_le (ns := ns) (show p ≤ p + siz ns p + 1 by omega)
    omega
  have lt : (ns.take p).length = p := by rw [List.length_take]; omega
  have nl : p + siz ns p + 1 + (ns.length - (p + siz ns p + 1)) = ns.length := by omega
  have G2 := keep (F := F) (s0 := p + siz ns p + 1) (s1 := ns.length) (ns := ns) (G := fun k q σ => f186_77 F k (Int32.ofNat p) (Int32.ofNat ns.length) (Int32.ofNat (p + siz ns p)) (Int32.ofNat q) σ) hF hw hl (fun k q σ τ hq hq2 ho _ hf => by
    rw [f186_77.eq_2, ltE, ho.1, if_pos ((oN_lt (by omega) (by omega)).mpr (by omega)), if_neg (fun g => by have := (oN_lt (by omega) (by omega)).mp g; omega), if_pos ((oN_lt (by omega) (by omega)).mpr (by omega))]
    unfold f186_98 f186_104
    rw [hf, cVo, oN_p1]) (Nat.le_refl _) (ns.length - (p + siz ns p + 1)) (F - p - (siz ns p + 1) - (ns.length - (p + siz ns p + 1))) (p + siz ns p + 1) e1 (ns.take p) σ1 (Nat.le_refl _) (by omega) o1 a3 a5 (by rw [lt]; omega) (by rw [nl]; omega)
  rw [nl, show F - p - (siz ns p + 1) - (ns.length - (p + siz ns p + 1)) + (ns.length - (p + siz ns p + 1)) = F - p - (siz ns p + 1) by omega, show (ns.drop (p + siz ns p + 1)).take (ns.length - (p + siz ns p + 1)) = ns.drop (p + siz ns p + 1) by rw [List.take_of_length_le (by rw [List.length_drop]; omega)], dl_fold hw h0 hp] at G2
  obtain ⟨σ2, e2, b1, b2, b3, b4, b5, b6⟩ := G2
  have b1' : f186_77 F (F - p - (siz ns p + 1)) (Int32.ofNat p) (Int32.ofNat ns.length) (Int32.ofNat (p + siz ns p)) (Int32.ofNat (p + siz ns p + 1)) σ1 = f186_77 F (F - p - (siz ns p + 1) - (ns.length - (p + siz ns p + 1))) (Int32.ofNat p) (Int32.ofNat ns.length) (Int32.ofNat (p + siz ns p)) (Int32.ofNat ns.length) σ2 := b1
  have o2 := o1.fr b2
  have hwn := dl_wf hw h0 hp
  obtain ⟨τ, c1, c2, c3, c4⟩ := f178_e hF b3 (by omega) ⟨by omega, b5.1⟩ hwn.2.2.1 hwn.ok
  obtain ⟨F0, hF0⟩ : ∃ F0, F - p - (siz ns p + 1) - (ns.length - (p + siz ns p + 1)) = F0 + 1 := ⟨F - p - (siz ns p + 1) - (ns.length - (p + siz ns p + 1)) - 1, by omega⟩
  have an := a2.trans b2
  refine ⟨τ, ?_, an.q.trans c2.q, c3, c4, fun j h1 h2 h3 h4 => (c2.2.1 j h1 h4).trans (an.2.1 j h2 h3), (c2.1 1316 (by omega)).trans (an.1 1316 (by omega))⟩
  rw [a1', sk1, b1', hF0, f186_77.eq_2, ltE, o2.1, if_neg (fun g => by have := (oN_lt (by omega) (by omega)).mp g; omega), c1, cVo, ltE, c3.1, oN_sb (by omega)]
end DLO
