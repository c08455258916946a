/-! THE CALL rename -/
section ORN
variable {F c p : Nat} {x : Int32} {b : List Int32} {ns : List Nd} {σ : St}
theorem nm_wf (hw : wf ns) (h0 : 0 < p) (hp : p < ns.length) (hk : (nd ns p).1 = 1 ∨ (nd ns p).1 = 2) (hO : okB b) : wf (nmL ns p b) := by
  have hl := nmL_len (b := b) hp
  refine ⟨by omega, by rw [nd_nm hp, if_neg (by omega)]; exact hw.2.1, fun i hi => ?_, fun i h1 hi => ?_⟩
  · rw [hl] at hi
    rw [nd_nm hp, nd_nm hp]
    have a := hw.2.2.1 i hi
    by_cases c1 : i = p
    · rw [if_pos c1, if_neg (by omega)]
      rw [c1] at a ⊢
      exact adjOk_cg a rfl rfl rfl rfl
    · rw [if_neg c1]
      by_cases c2 : i + 1 = p
      · rw [if_pos c2]
        rw [c2] at a
        exact adjOk_cg a rfl rfl rfl rfl
      · rw [if_neg c2]
        exact a
  · rw [hl] at hi
    rw [nd_nm hp]
    by_cases c1 : i = p
    · rw [if_pos c1]
      have k := (hw.2.2.2 p h0 hp).1
      refine ⟨⟨k.1, k.2.1, k.2.2.1, k.2.2.2.1, hO, k.2.2.2.2.2.1, fun g => ?_, fun g => ?_, k.2.2.2.2.2.2.2.2⟩, k.2.2.1⟩
      · dsimp only at g
        omega
      · dsimp only at g
        omega
    · rw [if_neg c1]
      exact hw.2.2.2 i h1 hi
theorem nm_fold (hw : wf ns) (hp : p < ns.length) (hk : (nd ns p).1 ≠ 3) : (ns.drop (p + 1)).foldl addN (ns.take p ++ [((nd ns p).1, (nd ns p).2.1, b, (nd ns p).2.2.2)]) = nmL ns p b := by
  rw [fold_A]
  · rfl
  · intro _ g
    have e := g.2.2.1
    rw [show nd (ns.take p ++ [((nd ns p).1, (nd ns p).2.1, b, (nd ns p).2.2.2)]) ((ns.take p ++ [((nd ns p).1, (nd ns p).2.1, b, (nd ns p).2.2.2)]).length - 1) = ((nd ns p).1, (nd ns p).2.1, b, (nd ns p).2.2.2) from last_snoc] at e
    exact hk e
  · intro i hi
    rw [List.length_drop] at hi
    rw [ndDrop, ndDrop, show p + 1 + (i + 1) = p + 1 + i + 1 by omega]
    exact hw.2.2.1.nj _ (by omega)
theorem f187_158_e (hF : 5000 ≤ F) (hb : b.length ≤ 120) (hO : okB b) (hB : bufM σ b) (h : mTr σ ns) (hw : wf ns) (hl : lvOk ns) (h0 : 0 < p) (hp : p < ns.length) (hk : (nd ns p).1 = 1 ∨ (nd ns p).1 = 2) (ht : tot ns + b.length ≤ 4300) (h13 : σ.1 1315 13 = 0) (h14 : σ.1 1315 14 = 0) : ∃ τ, f187_158 F F (Int32.ofNat p) 0 σ = oI (Int32.ofNat b.length) τ ∧ agQ σ τ ∧ mTr τ (nmL ns p b) ∧ τ.1 1315 34 = 0 ∧ bufM τ [] ∧ τ.1 1315 0 = σ.1 1315 0 := by
  have hl1 := hl.1
  have hk3 : (nd ns p).1 ≠ 3 := by omega
  have o0 : oldT σ ns := ⟨h.1, fun i hi => (h.2 i hi).1⟩
  have pl := pF_le (ns := ns) (Nat.le_refl _)
  have pm : ∀ i j, i ≤ j → pF ns i ≤ pF ns j := fun i j hij => by
    unfold pF
    have h1 := wF_le (ns := ns) hij
    have h2 := tF_le (ns := ns) hij
    omega
  have p00 : pF ns 0 = 0 := rfl
  have pp := pm p ns.length (by omega)
  have pp1 := pm (p + 1) ns.length (by omega)
  have G1 := keep (F := F) (s0 := 0) (s1 := p) (ns := ns) (G := fun k q σ => f187_158 F k (Int32.ofNat p) (Int32.ofNat q) σ) hF hw hl (fun k q σ τ _ hq ho _ hf => by
    rw [f187_158.eq_2, ltE, ho.1, if_pos ((oN_lt (by omega) (by omega)).mpr (by omega)), hf, cVo, if_neg (fun g => by have := (oN_eq (by omega) (by omega)).mp g; omega)]
    unfold f187_186
    rw [oN_p1]) (by omega) p (F - p) 0 0 [] σ (Nat.le_refl _) (by omega) o0 (nTr_nil h13 h14) good_nil (by rw [List.length_nil]; omega) (by rw [show 0 + p = p by omega]; omega)
  rw [Nat.zero_add, List.drop_zero, show F - p + p = F by omega] at G1
  obtain ⟨σ1, e1, a1, a2, a3, a4, a5, a6⟩ := G1
  have f1 : (ns.take p).foldl addN [] = ns.take p := by
    rw [fold_A (ns.take p) [] (fun _ g => absurd g.2.1 (by decide)) (fun i hi => by
      rw [List.length_take] at hi
      rw [ndTake, ndTake, if_pos (by omega), if_pos (by omega)]
      exact hw.2.2.1.nj i (by omega)), List.nil_append]
  rw [f1] at a3 a5 a6
  have a1' : f187_158 F F (Int32.ofNat p) 0 σ = f187_158 F (F - p) (Int32.ofNat p) (Int32.ofNat p) σ1 := a1
  have o1 := o0.fr a2
  have lt : (ns.take p).length = p := by rw [List.length_take]; omega
  have ps := pF_s hp
  have oo := hw.ok p hp
  have kk := hl.2 p hp
  obtain ⟨σ2, e2, b1, b2, b3, b4⟩ := f174_s (F := F) hF (o1.2 p hp) oo (by omega) a3 ⟨by omega, a5.1⟩ a5.2 ⟨kk.2, kk.1⟩ (by omega)
  have ea : addN (ns.take p) (nd ns p) = ns.take p ++ [nd ns p] := if_neg (fun g => hk3 g.1)
  rw [ea] at b3
  have o2 := o1.fr b2
  have g2 := a2.trans b2
  have bB : bufM σ2 b := hB.fr (g2.2.1 1 (by decide) (by decide)) (g2.1 1316 (by omega))
  have n13 : σ2.1 1315 13 - 1 = Int32.ofNat (ns.take p).length := by
    rw [b3.1, List.length_append, List.length_cons, List.length_nil, Nat.zero_add, oN_s1]
  obtain ⟨σ3, c1, c2, c3⟩ := f189_e (F := F) (by omega) hb hO bB (by omega) hk3 b3 (by omega)
  have o3 := o2.fr c2
  have ll : (ns.take p ++ [((nd ns p).1, (nd ns p).2.1, b, (nd ns p).2.2.2)]).length = p + 1 := by
    rw [List.length_append, lt, List.length_cons, List.length_nil]
  have gg : good (ns.take p ++ [((nd ns p).1, (nd ns p).2.1, b, (nd ns p).2.2.2)]) := by
    refine ⟨fun i hi => ?_, fun i hi h3 => ?_⟩
    · rw [ll] at hi
      rw [nd_snoc, lt]
      by_cases c : i < p
      · rw [if_pos c, ndTake, if_pos c]
        exact hl.2 i (by omega)
      · rw [if_neg c, if_pos (by omega)]
        exact kk
    · rw [ll] at hi
      rw [nd_snoc, lt] at h3 ⊢
      by_cases c : i < p
      · rw [if_pos c, ndTake, if_pos c] at h3 ⊢
        exact (hw.tx (by omega) h3).2
      · rw [if_neg c, if_pos (by omega)] at h3
        exact absurd h3 hk3
  have nl : p + 1 + (ns.length - (p + 1)) = ns.length := by omega
  have G2 := keep (F := F) (s0 := p + 1) (s1 := ns.length) (ns := ns) (G := fun k q σ => f187_158 F k (Int32.ofNat p) (Int32.ofNat q) σ) hF hw hl (fun k q σ τ hq hq2 ho _ hf => by
    rw [f187_158.eq_2, ltE, ho.1, if_pos ((oN_lt (by omega) (by omega)).mpr (by omega)), hf, cVo, if_neg (fun g => by have := (oN_eq (by omega) (by omega)).mp g; omega)]
    unfold f187_186
    rw [oN_p1]) (Nat.le_refl _) (ns.length - (p + 1)) (F - p - 1 - (ns.length - (p + 1))) (p + 1) (e2 + b.length) (ns.take p ++ [((nd ns p).1, (nd ns p).2.1, b, (nd ns p).2.2.2)]) σ3 (Nat.le_refl _) (by omega) o3 c3 gg (by rw [ll]; omega) (by rw [nl]; omega)
  rw [nl, show F - p - 1 - (ns.length - (p + 1)) + (ns.length - (p + 1)) = F - p - 1 by omega, show (ns.drop (p + 1)).take (ns.length - (p + 1)) = ns.drop (p + 1) by rw [List.take_of_length_le (by rw [List.length_drop]; omega)], nm_fold hw hp hk3] at G2
  obtain ⟨σ4, e4, d1, d2, d3, d4, d5, d6⟩ := G2
  have d1' : f187_158 F (F - p - 1) (Int32.ofNat p) (Int32.ofNat (p + 1)) σ3 = f187_158 F (F - p - 1 - (ns.length - (p + 1))) (Int32.ofNat p) (Int32.ofNat ns.length) σ4 := d1
  have o4 := o3.fr d2
  have wn := nm_wf hw h0 hp hk hO
  have lnm := nmL_len (b := b) hp
  obtain ⟨τ, t1, t2, t3, t4⟩ := f178_e hF d3 (by omega) ⟨by omega, d5.1⟩ wn.2.2.1 wn.ok
  have gn := (g2.trans c2).trans d2
  obtain ⟨F0, hF0⟩ : ∃ F0, F - p - 1 - (ns.length - (p + 1)) = F0 + 1 := ⟨F - p - 1 - (ns.length - (p + 1)) - 1, by omega⟩
  refine ⟨uI τ 1315 1 0, ?_, (gn.q.trans t2.q).uI (by decide), t3.fr (fun c _ _ => u_ne (by omega)) (by rw [u_at, if_neg (by decide)]), by rw [u_at, if_neg (by decide)]; exact t4, ⟨u_eq, fun i hi => absurd hi (Nat.not_lt_zero _)⟩, ?_⟩
  · rw [a1', show F - p = (F - p - 1) + 1 by omega, f187_158.eq_2, ltE, o1.1, if_pos ((oN_lt (by omega) (by omega)).mpr hp), b1, cVo, if_pos (by rfl), ltE, n13, c1, cVo]
    unfold f187_186
    rw [oN_p1, d1', hF0, f187_158.eq_2, ltE, o4.1, if_neg (fun g => by have := (oN_lt (by omega) (by omega)).mp g; omega), t1, cVo, ltE, t2.2.1 1 (by decide) (by decide), gn.2.1 1 (by decide) (by decide), hB.1, ltE]
  · rw [u_at, if_neg (by decide), t2.2.1 0 (by decide) (by decide), gn.2.1 0 (by decide) (by decide)]
end ORN
