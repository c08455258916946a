/-! THE REFERENCE ADOPTS THE NEW TREE -/
def agA (σ τ : St) : Prop := (∀ a, a < 1315 ∨ a = 1316 ∨ 1325 < a → τ.1 a = σ.1 a) ∧ (∀ j, j ≠ 3 → j ≠ 34 → τ.1 1315 j = σ.1 1315 j) ∧ τ.2 = σ.2
theorem agA.refl {σ : St} : agA σ σ := ⟨fun _ _ => rfl, fun _ _ _ => rfl, rfl⟩
theorem agA.trans {σ τ υ : St} (h : agA σ τ) (g : agA τ υ) : agA σ υ := ⟨fun a ha => (g.1 a ha).trans (h.1 a ha), fun j h1 h2 => (g.2.1 j h1 h2).trans (h.2.1 j h1 h2), g.2.2.trans h.2.2⟩
theorem agA.uA {σ τ : St} {a j : Nat} {x : Int32} (h : agA σ τ) (ha : 1317 ≤ a ∧ a ≤ 1325) : agA σ (uI τ a j x) := ⟨fun c hc => by rw [u_ne (by omega)]; exact h.1 c hc, fun i h1 h2 => by rw [u_ne (by omega)]; exact h.2.1 i h1 h2, h.2.2⟩
theorem agA.uF {σ τ : St} {j : Nat} {x : Int32} (h : agA σ τ) (hj : j = 3 ∨ j = 34) : agA σ (uI τ 1315 j x) := ⟨fun a ha => by rw [u_ne (by omega)]; exact h.1 a ha, fun i h1 h2 => by rw [u_at, if_neg (by omega)]; exact h.2.1 i h1 h2, h.2.2⟩
def cpA (σ : St) (i : Nat) : St := uI (uI (uI (uI (uI (uI σ 1317 i (σ.1 1326 i)) 1318 i (σ.1 1327 i)) 1319 i (σ.1 1328 i)) 1320 i (σ.1 1329 i)) 1321 i (σ.1 1330 i)) 1322 i (σ.1 1331 i)
theorem cpA_ag {σ τ : St} {i : Nat} (h : agA σ τ) : agA σ (cpA τ i) := (((((h.uA (by decide)).uA (by decide)).uA (by decide)).uA (by decide)).uA (by decide)).uA (by decide)
section CPA
variable {σ : St} {i j : Nat}
theorem cpA_o {a : Nat} (h : a < 1317 ∨ 1322 < a) : (cpA σ i).1 a = σ.1 a := by
  unfold cpA
  rw [u_ne (by omega), u_ne (by omega), u_ne (by omega), u_ne (by omega), u_ne (by omega), u_ne (by omega)]
theorem cpA_17 : (cpA σ i).1 1317 j = if j = i then σ.1 1326 i else σ.1 1317 j := by
  unfold cpA
  rw [u_ne (by decide), u_ne (by decide), u_ne (by decide), u_ne (by decide), u_ne (by decide), u_at]
theorem cpA_18 : (cpA σ i).1 1318 j = if j = i then σ.1 1327 i else σ.1 1318 j := by
  unfold cpA
  rw [u_ne (by decide), u_ne (by decide), u_ne (by decide), u_ne (by decide), u_at, u_ne (by decide)]
theorem cpA_19 : (cpA σ i).1 1319 j = if j = i then σ.1 1328 i else σ.1 1319 j := by
  unfold cpA
  rw [u_ne (by decide), u_ne (by decide), u_ne (by decide), u_at, u_ne (by decide), u_ne (by decide)]
theorem cpA_20 : (cpA σ i).1 1320 j = if j = i then σ.1 1329 i else σ.1 1320 j := by
  unfold cpA
  rw [u_ne (by decide), u_ne (by decide), u_at, u_ne (by decide), u_ne (by decide), u_ne (by decide)]
theorem cpA_21 : (cpA σ i).1 1321 j = if j = i then σ.1 1330 i else σ.1 1321 j := by
  unfold cpA
  rw [u_ne (by decide), u_at, u_ne (by decide), u_ne (by decide), u_ne (by decide), u_ne (by decide)]
theorem cpA_22 : (cpA σ i).1 1322 j = if j = i then σ.1 1331 i else σ.1 1322 j := by
  unfold cpA
  rw [u_at, u_ne (by decide), u_ne (by decide), u_ne (by decide), u_ne (by decide), u_ne (by decide)]
end CPA
/-- the first i nodes are the new tree's -/
def asN (σ : St) (i : Nat) : Prop := ∀ j, j < i → σ.1 1317 j = σ.1 1326 j ∧ σ.1 1318 j = σ.1 1327 j ∧ σ.1 1319 j = σ.1 1328 j ∧ σ.1 1320 j = σ.1 1329 j ∧ σ.1 1321 j = σ.1 1330 j ∧ σ.1 1322 j = σ.1 1331 j
section ADP
variable {F n e : Nat}
theorem f178_10_e (hn : n ≤ 30) : ∀ (m k i : Nat) (σ : St), i + m = n → σ.1 1315 3 = Int32.ofNat n → asN σ i → ∃ τ, f178_10 F (k + m + 1) (Int32.ofNat i) σ = f178_98 F F 0 τ ∧ agA σ τ ∧ asN τ n ∧ τ.1 1315 = σ.1 1315 := by
  intro m
  induction m with
  | zero =>
    intro k i σ him h3 ha
    rw [f178_10.eq_2, ltE, h3, if_neg (fun g => by have := (oN_lt (by omega) (by omega)).mp g; omega)]
    exact ⟨σ, rfl, agA.refl, by rw [← him]; exact ha, rfl⟩
  | succ m ih =>
    intro k i σ him h3 ha
    have q1 := oN_n (show i < 2147483648 by omega)
    have i1 : inB (Int32.ofNat i) 31 := oN_rg (by omega) (by decide)
    have a1 : asN (cpA σ i) (i + 1) := fun j hj => by
      rw [cpA_17, cpA_18, cpA_19, cpA_20, cpA_21, cpA_22, cpA_o (by omega), cpA_o (by omega), cpA_o (by omega), cpA_o (by omega), cpA_o (by omega), cpA_o (by omega)]
      by_cases c : j = i
      · rw [if_pos c, if_pos c, if_pos c, if_pos c, if_pos c, if_pos c, c]
        exact ⟨rfl, rfl, rfl, rfl, rfl, rfl⟩
      · rw [if_neg c, if_neg c, if_neg c, if_neg c, if_neg c, if_neg c]
        exact ha j (by omega)
    obtain ⟨τ, e1, e2, e3, e4⟩ := ih k (i + 1) (cpA σ i) (by omega) (by rw [cpA_o (by omega)]; exact h3) a1
    have g : agA σ (cpA σ i) := cpA_ag agA.refl
    refine ⟨τ, ?_, g.trans e2, e3, e4.trans (cpA_o (by omega))⟩
    rw [← e1, show k + (m + 1) + 1 = (k + m + 1) + 1 by omega, f178_10.eq_2, ltE, h3, if_pos ((oN_lt (by omega) (by omega)).mpr (by omega)), oN_p1]
    simp only [q1]
    unfold cpA
    rw [if_pos i1, ltE, if_pos i1, ltE]
    generalize e5 : uI σ 1317 i (σ.1 1326 i) = σ1
    rw [show σ.1 1327 i = σ1.1 1327 i by rw [← e5, u_ne (by decide)], show σ.1 1328 i = σ1.1 1328 i by rw [← e5, u_ne (by decide)], show σ.1 1329 i = σ1.1 1329 i by rw [← e5, u_ne (by decide)], show σ.1 1330 i = σ1.1 1330 i by rw [← e5, u_ne (by decide)], show σ.1 1331 i = σ1.1 1331 i by rw [← e5, u_ne (by decide)], if_pos i1, ltE, if_pos i1, ltE]
    generalize e6 : uI σ1 1318 i (σ1.1 1327 i) = σ2
    rw [show σ1.1 1328 i = σ2.1 1328 i by rw [← e6, u_ne (by decide)], show σ1.1 1329 i = σ2.1 1329 i by rw [← e6, u_ne (by decide)], show σ1.1 1330 i = σ2.1 1330 i by rw [← e6, u_ne (by decide)], show σ1.1 1331 i = σ2.1 1331 i by rw [← e6, u_ne (by decide)], if_pos i1, ltE, if_pos i1, ltE]
    generalize e7 : uI σ2 1319 i (σ2.1 1328 i) = σ3
    rw [show σ2.1 1329 i = σ3.1 1329 i by rw [← e7, u_ne (by decide)], show σ2.1 1330 i = σ3.1 1330 i by rw [← e7, u_ne (by decide)], show σ2.1 1331 i = σ3.1 1331 i by rw [← e7, u_ne (by decide)], if_pos i1, ltE, if_pos i1, ltE]
    generalize e8 : uI σ3 1320 i (σ3.1 1329 i) = σ4
    rw [show σ3.1 1330 i = σ4.1 1330 i by rw [← e8, u_ne (by decide)], show σ3.1 1331 i = σ4.1 1331 i by rw [← e8, u_ne (by decide)], if_pos i1, ltE, if_pos i1, ltE]
    generalize e9 : uI σ4 1321 i (σ4.1 1330 i) = σ5
    rw [show σ4.1 1331 i = σ5.1 1331 i by rw [← e9, u_ne (by decide)], if_pos i1, ltE, if_pos i1, ltE]
theorem f178_98_e (he : e ≤ 4300) : ∀ (m k i : Nat) (σ : St), i + m = e → σ.1 1315 14 = Int32.ofNat e → (∀ j, j < i → σ.1 1323 j = vp_nar .char (σ.1 1332 j)) → ∃ τ, f178_98 F (k + m + 1) (Int32.ofNat i) σ = f178_126 F F 0 τ ∧ (∀ a, a ≠ 1323 → τ.1 a = σ.1 a) ∧ τ.2 = σ.2 ∧ (∀ j, j < e → τ.1 1323 j = vp_nar .char (σ.1 1332 j)) := by
  intro m
  induction m with
  | zero =>
    intro k i σ him h3 ha
    rw [f178_98.eq_2, ltE, h3, if_neg (fun g => by have := (oN_lt (by omega) (by omega)).mp g; omega)]
    exact ⟨σ, rfl, fun _ _ => rfl, rfl, fun j hj => ha j (by omega)⟩
  | succ m ih =>
    intro k i σ him h3 ha
    have q1 := oN_n (show i < 2147483648 by omega)
    have i1 : inB (Int32.ofNat i) 4300 := oN_rg (by omega) (by decide)
    obtain ⟨τ, e1, e2, e3, e4⟩ := ih k (i + 1) (uI σ 1323 i (vp_nar .char (σ.1 1332 i))) (by omega) (by rw [u_ne (by decide)]; exact h3) (fun j hj => by
      rw [u_at, u_ne (by decide)]
      by_cases c : j = i
      · rw [if_pos c, c]
      · rw [if_neg c]
        exact ha j (by omega))
    refine ⟨τ, ?_, fun a h => (e2 a h).trans (u_ne h), e3, fun j hj => ?_⟩
    · rw [← e1, show k + (m + 1) + 1 = (k + m + 1) + 1 by omega, f178_98.eq_2, ltE, h3, if_pos ((oN_lt (by omega) (by omega)).mpr (by omega)), oN_p1]
      simp only [q1]
      rw [if_pos i1, ltE, if_pos i1, ltE]
    · rw [e4 j hj, u_ne (by decide)]
end ADP
/-- what the reference works out -/
def kl (σ : St) (ns : List Nd) : Prop := σ.1 1315 3 = Int32.ofNat ns.length ∧ ∀ i, i < ns.length → σ.1 1317 i = Int32.ofNat (nd ns i).1 ∧ σ.1 1318 i = Int32.ofNat (nd ns i).2.1
def parM (ns : List Nd) (lv : Nat) : Nat → Int32
  | 0 => -1
  | q + 1 => if (nd ns q).1 ≤ 1 ∧ (nd ns q).2.1 + 1 = lv then Int32.ofNat q else parM ns lv q
section ADQ
variable {F p : Nat} {ns : List Nd} {σ : St}
theorem f179_14_e (h : kl σ ns) (hl : lvOk ns) (hp : p < ns.length) : ∀ (m k c : Nat), p + c + 1 ≤ ns.length → skn (deeper (nd ns p).2.1) ns (p + c + 1) = p + c + 1 + m → f179_14 F (k + m + 1) (Int32.ofNat p) (Int32.ofNat c) σ = oI (Int32.ofNat (c + m)) σ := by
  have hl1 := hl.1
  have h2 := (h.2 p hp).2
  have b2 := (hl.2 p hp).1
  intro m
  induction m with
  | zero =>
    intro k c hc hs
    rw [f179_14.eq_2, ltE, h.1, oN_ad, oN_p1]
    by_cases hql : p + c + 1 < ns.length
    · have hf : deeper (nd ns p).2.1 (nd ns (p + c + 1)) = false := by
        rcases skn_cases (f := deeper (nd ns p).2.1) (ns := ns) (p := p + c + 1) with ⟨_, _, g⟩ | ⟨g, _⟩
        · have := skn_ge (f := deeper (nd ns p).2.1) (ns := ns) (p := p + c + 1 + 1)
          omega
        · exact g hql
      unfold deeper at hf
      rw [decide_eq_false_iff_not] at hf
      have b1 := (hl.2 _ hql).1
      rw [if_pos ((oN_lt (by omega) (by omega)).mpr hql), if_pos (oN_rg (by omega) (by decide)), ltE, if_pos (oN_rg (by omega) (by decide)), ltE, oN_n (by omega), oN_n (by omega), (h.2 _ hql).2, h2, if_neg (fun g => hf ((oN_lt (by omega) (by omega)).mp g))]
      rfl
    · rw [if_neg (fun g => hql ((oN_lt (by omega) (by omega)).mp g))]
      rfl
  | succ m ih =>
    intro k c hc hs
    rcases skn_cases (f := deeper (nd ns p).2.1) (ns := ns) (p := p + c + 1) with ⟨hql, hf, g⟩ | ⟨_, g⟩
    · unfold deeper at hf
      rw [decide_eq_true_eq] at hf
      have b1 := (hl.2 _ hql).1
      have i1 := ih k (c + 1) (by omega) (by rw [show p + (c + 1) + 1 = p + c + 1 + 1 by omega]; omega)
      rw [show k + (m + 1) + 1 = (k + m + 1) + 1 by omega, f179_14.eq_2, ltE, h.1, oN_ad, oN_p1, if_pos ((oN_lt (by omega) (by omega)).mpr hql), if_pos (oN_rg (by omega) (by decide)), ltE, if_pos (oN_rg (by omega) (by decide)), ltE, oN_n (by omega), oN_n (by omega), (h.2 _ hql).2, h2, if_pos ((oN_lt (by omega) (by omega)).mpr hf), oN_p1, i1, show c + 1 + m = c + (m + 1) by omega]
    · omega
theorem f179_e (hF : 500 ≤ F) (h : kl σ ns) (hl : lvOk ns) (hp : p < ns.length) : f179 F (Int32.ofNat p) σ = oI (Int32.ofNat (if 1 < (nd ns p).1 then 0 else siz ns p)) σ := by
  have hl1 := hl.1
  have b := (hl.2 p hp).2
  have h1 := skn_ge (f := deeper (nd ns p).2.1) (ns := ns) (p := p + 1)
  have h2 := skn_le (f := deeper (nd ns p).2.1) (ns := ns) (p := p + 1) (by omega)
  obtain ⟨m, hm⟩ : ∃ m, skn (deeper (nd ns p).2.1) ns (p + 1) = p + 1 + m := ⟨skn (deeper (nd ns p).2.1) ns (p + 1) - (p + 1), by omega⟩
  obtain ⟨k, hk⟩ : ∃ k, F = k + m + 1 := ⟨F - m - 1, by omega⟩
  have a0 := f179_14_e (F := F) h hl hp m k 0 (by omega) hm
  rw [← hk, Nat.zero_add] at a0
  have a1 : f179_14 F F (Int32.ofNat p) 0 σ = oI (Int32.ofNat m) σ := a0
  unfold f179
  rw [if_pos (oN_rg (by omega) (by decide)), ltE, oN_n (by omega), (h.2 p hp).1]
  by_cases c : 1 < (nd ns p).1
  · rw [if_pos c, if_pos (show (1 : Int32) < Int32.ofNat (nd ns p).1 from (oN_lt (p := 1) (by decide) (by omega)).mpr c)]
    rfl
  · rw [if_neg c, if_neg (show ¬ (1 : Int32) < Int32.ofNat (nd ns p).1 from fun g => c ((oN_lt (p := 1) (by decide) (by omega)).mp g)), a1]
    unfold siz
    rw [hm, show p + 1 + m - p - 1 = m by omega]
theorem f180_4_e (h : kl σ ns) (hl : lvOk ns) (hp : p < ns.length) : ∀ (q k : Nat), q ≤ p → f180_4 F (k + q + 1) (Int32.ofNat p) (Int32.ofNat q - 1) σ = oI (parM ns (nd ns p).2.1 q) σ := by
  have hl1 := hl.1
  intro q
  induction q with
  | zero =>
    intro k _
    rw [f180_4.eq_2, if_pos (by decide)]
    rfl
  | succ q ih =>
    intro k hq
    have h1 := h.2 q (by omega)
    have h2 := (h.2 p hp).2
    have b1 := hl.2 q (by omega)
    have b2 := (hl.2 p hp).1
    rw [show k + (q + 1) + 1 = (k + q + 1) + 1 by omega, f180_4.eq_2, oN_s1, if_neg (oN_nn (by omega)), if_pos (oN_rg (by omega) (by decide)), ltE]
    simp only [oN_n (show q < 2147483648 by omega)]
    rw [h1.1]
    unfold parM f180_35
    by_cases c : 1 < (nd ns q).1
    · rw [if_pos (show (1 : Int32) < Int32.ofNat (nd ns q).1 from (oN_lt (p := 1) (by decide) (by omega)).mpr c), if_neg (by omega), oN_mm, ih k (by omega)]
    · rw [if_neg (show ¬ (1 : Int32) < Int32.ofNat (nd ns q).1 from fun g => c ((oN_lt (p := 1) (by decide) (by omega)).mp g)), if_pos (oN_rg (by omega) (by decide)), ltE, if_pos (oN_rg (by omega) (by decide)), ltE, oN_n (by omega), h1.2, h2]
      have ee : (Int32.ofNat (nd ns q).2.1 = Int32.ofNat (nd ns p).2.1 - 1) ↔ ((nd ns q).2.1 + 1 = (nd ns p).2.1) := by
        constructor
        · intro g
          have g2 : Int32.ofNat ((nd ns q).2.1 + 1) = Int32.ofNat (nd ns p).2.1 := by
            rw [← oN_p1, g, Int32.sub_add_cancel]
          exact (oN_eq (by omega) (by omega)).mp g2
        · intro g
          rw [← g, oN_s1]
      by_cases c2 : (nd ns q).2.1 + 1 = (nd ns p).2.1
      · rw [if_pos (ee.mpr c2), if_pos ⟨by omega, c2⟩]
      · rw [if_neg (fun g => c2 (ee.mp g)), if_neg (fun g => c2 g.2), oN_mm, ih k (by omega)]
theorem f180_e (hF : 500 ≤ F) (h : kl σ ns) (hl : lvOk ns) (hp : p < ns.length) : f180 F (Int32.ofNat p) σ = oI (parM ns (nd ns p).2.1 p) σ := by
  have hl1 := hl.1
  obtain ⟨k, hk⟩ : ∃ k, F = k + p + 1 := ⟨F - p - 1, by omega⟩
  have a0 := f180_4_e (F := F) h hl hp p k (Nat.le_refl _)
  rw [← hk] at a0
  unfold f180
  exact a0
end ADQ
/-! which nodes may stand side by side -/
def adjOk (x y : Nd) : Prop := y.2.1 ≤ x.2.1 + 1 ∧ (1 < x.1 → y.2.1 ≤ x.2.1) ∧ (y.1 = 2 → (x.1 = 1 ∧ y.2.1 = x.2.1 + 1) ∨ (x.1 = 2 ∧ y.2.1 = x.2.1)) ∧ ¬ (x.1 = 3 ∧ y.1 = 3 ∧ x.2.1 = y.2.1)
def chOk (ns : List Nd) : Prop := ∀ i, i + 1 < ns.length → adjOk (nd ns i) (nd ns (i + 1))
section WFP
variable {p : Nat} {ns : List Nd}
theorem par_eq (h : chOk ns) (hp : p < ns.length) : ∀ q, q ≤ p → (∀ j, q ≤ j → j < p → (nd ns p).2.1 ≤ (nd ns j).2.1) → parS ns (nd ns p).2.1 q = parM ns (nd ns p).2.1 q := by
  intro q
  induction q with
  | zero => intro _ _; rfl
  | succ q ih =>
    intro hq hh
    have a := h q (by omega)
    have b : (nd ns p).2.1 ≤ (nd ns (q + 1)).2.1 := by
      by_cases c : q + 1 = p
      · rw [c]
        exact Nat.le_refl _
      · exact hh (q + 1) (Nat.le_refl _) (by omega)
    unfold parS parM
    by_cases c : (nd ns q).2.1 < (nd ns p).2.1
    · have a1 := a.1
      have a2 := a.2.1
      rw [if_pos c, if_pos ⟨by
        by_cases c2 : 1 < (nd ns q).1
        · have := a2 c2
          omega
        · omega, by omega⟩]
    · rw [if_neg c, if_neg (fun g => c (by omega)), ih (by omega) (fun j h1 h2 => by
        by_cases c2 : j = q
        · rw [c2]
          omega
        · exact hh j (by omega) h2)]
theorem siz_0 (h : chOk ns) (hk : 1 < (nd ns p).1) : siz ns p = 0 := by
  have e : skn (deeper (nd ns p).2.1) ns (p + 1) = p + 1 := skn_f (fun hl => by
    have a := (h p hl).2.1 hk
    unfold deeper
    rw [decide_eq_false_iff_not]
    omega)
  unfold siz
  omega
end WFP
