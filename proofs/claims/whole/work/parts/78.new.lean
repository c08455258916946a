/-! THE REFERENCE BUILDS A NEW TREE: characters appended, a node placed -/
theorem nar_id : ∀ k, k < 128 → vp_nar .char (Int32.ofNat k) = Int32.ofNat k := by decide +kernel
def apP (σ : St) (e : Nat) (l : List Int32) : St := uI (uF σ 1332 (fun i => if e ≤ i ∧ i < e + l.length then l.getD (i - e) 0 else σ.1 1332 i)) 1315 14 (Int32.ofNat (e + l.length))
/-- nothing but the new tree has changed -/
def agN (σ τ : St) : Prop := (∀ a, a < 1315 ∨ (1315 < a ∧ a < 1326) ∨ 1332 < a → τ.1 a = σ.1 a) ∧ (∀ j, j ≠ 13 → j ≠ 14 → τ.1 1315 j = σ.1 1315 j) ∧ τ.2 = σ.2
theorem agN.refl {σ : St} : agN σ σ := ⟨fun _ _ => rfl, fun _ _ _ => rfl, rfl⟩
theorem agN.trans {σ τ υ : St} (h : agN σ τ) (g : agN τ υ) : agN σ υ := ⟨fun a ha => (g.1 a ha).trans (h.1 a ha), fun j h1 h2 => (g.2.1 j h1 h2).trans (h.2.1 j h1 h2), g.2.2.trans h.2.2⟩
theorem agN.uA {σ τ : St} {a j : Nat} {x : Int32} (h : agN σ τ) (ha : 1326 ≤ a ∧ a ≤ 1332) : agN σ (uI τ a j x) := ⟨fun c hc => by rw [u_ne (by omega)]; exact h.1 c hc, fun i h1 h2 => by rw [u_ne (by omega)]; exact h.2.1 i h1 h2, h.2.2⟩
theorem agN.uF {σ τ : St} {j : Nat} {x : Int32} (h : agN σ τ) (hj : j = 13 ∨ j = 14) : agN σ (uI τ 1315 j x) := ⟨fun a ha => by rw [u_ne (by omega)]; exact h.1 a ha, fun i h1 h2 => by rw [u_at, if_neg (by omega)]; exact h.2.1 i h1 h2, h.2.2⟩
section APP
variable {F e : Nat} {σ : St} {l : List Int32} {c : Int32}
theorem apP_14 : (apP σ e l).1 1315 14 = Int32.ofNat (e + l.length) := u_eq
theorem apP_f {j : Nat} (h : j ≠ 14) : (apP σ e l).1 1315 j = σ.1 1315 j := by
  unfold apP
  rw [u_at, if_neg h, uF_ne (by decide)]
theorem apP_o {a : Nat} (h1 : a ≠ 1315) (h2 : a ≠ 1332) : (apP σ e l).1 a = σ.1 a := by
  unfold apP
  rw [u_ne h1, uF_ne h2]
theorem apP_p {i : Nat} : (apP σ e l).1 1332 i = if e ≤ i ∧ i < e + l.length then l.getD (i - e) 0 else σ.1 1332 i := by
  unfold apP
  rw [u_ne (by decide), uF_eq]
theorem apP_ag {τ : St} (h : agN σ τ) : agN σ (apP τ e l) := ⟨fun a ha => by rw [apP_o (by omega) (by omega)]; exact h.1 a ha, fun j h1 h2 => by rw [apP_f h2]; exact h.2.1 j h1 h2, h.2.2⟩
theorem apP_nil (h : σ.1 1315 14 = Int32.ofNat e) : apP σ e [] = σ := by
  refine st_ext ?_ rfl
  funext a i
  by_cases h1 : a = 1315
  · rw [h1]
    by_cases h2 : i = 14
    · rw [h2, apP_14, h]
      rfl
    · rw [apP_f h2]
  · by_cases h2 : a = 1332
    · rw [h2, apP_p, if_neg (by rw [List.length_nil]; omega)]
    · rw [apP_o h1 h2]
theorem apP_cons : apP (uI (uI σ 1332 e c) 1315 14 (Int32.ofNat (e + 1))) (e + 1) l = apP σ e (c :: l) := by
  refine st_ext ?_ rfl
  funext a i
  by_cases h1 : a = 1315
  · rw [h1]
    by_cases h2 : i = 14
    · rw [h2, apP_14, apP_14, List.length_cons]
      exact congrArg Int32.ofNat (by omega)
    · rw [apP_f h2, apP_f h2, u_at, if_neg h2, u_ne (by decide)]
  · by_cases h2 : a = 1332
    · rw [h2, apP_p, apP_p, u_ne (by decide), u_at, List.length_cons]
      by_cases c1 : i = e
      · rw [if_neg (by omega), if_pos c1, if_pos (by omega), c1, Nat.sub_self]
        rfl
      · rw [if_neg c1]
        by_cases c2 : e + 1 ≤ i ∧ i < e + 1 + l.length
        · rw [if_pos c2, if_pos (by omega), show i - e = (i - (e + 1)) + 1 by omega]
          rfl
        · rw [if_neg c2, if_neg (by omega)]
    · rw [apP_o h1 h2, apP_o h1 h2, u_ne h1, u_ne h2]
theorem f176_2_e {a n : Nat} : ∀ (l : List Int32) (k j e : Nat) (σ : St), (∀ t, t < l.length → σ.1 1323 (a + j + t) = l.getD t 0) → okB l → σ.1 1315 14 = Int32.ofNat e → e + l.length ≤ 4300 → a + j + l.length ≤ 4300 → j + l.length = n → f176_2 F (k + l.length + 1) (Int32.ofNat a) (Int32.ofNat n) (Int32.ofNat j) σ = oV (apP σ e l) := by
  intro l
  induction l with
  | nil =>
    intro k j e σ _ _ he h1 h2 hj
    rw [List.length_nil] at hj h1 h2
    rw [f176_2.eq_2, if_neg (fun g => by have := (oN_lt (by omega) (by omega)).mp g; omega), apP_nil he]
  | cons c l ih =>
    intro k j e σ hsrc hO he h1 h2 hj
    rw [List.length_cons] at hj h1 h2
    obtain ⟨w, w1, w2, w3⟩ := hO 0 (by rw [List.length_cons]; omega)
    have w4 : c = Int32.ofNat w := w3
    have s0 : σ.1 1323 (a + j) = c := hsrc 0 (by rw [List.length_cons]; omega)
    have i1 := ih k (j + 1) (e + 1) (uI (uI σ 1332 e c) 1315 14 (Int32.ofNat (e + 1))) (fun t ht => by
      rw [u_ne (by decide), u_ne (by decide), show a + (j + 1) + t = a + j + (t + 1) by omega]
      exact hsrc (t + 1) (by rw [List.length_cons]; omega)) (fun p hp => hO (p + 1) (by rw [List.length_cons]; omega)) u_eq (by omega) (by omega) (by omega)
    have n1 : vp_nar .char c = c := by
      rw [w4]
      exact nar_id w w2
    rw [List.length_cons, show k + (l.length + 1) + 1 = (k + l.length + 1) + 1 by omega, f176_2.eq_2, if_pos ((oN_lt (by omega) (by omega)).mpr (by omega)), ltE, he, oN_ad, if_pos (oN_rg (by omega) (by decide)), ltE, if_pos (oN_rg (by omega) (by decide)), ltE, oN_n (by omega), oN_n (by omega), s0, n1, ltE, u_ne (by decide), he, oN_p1, oN_p1, ltE, i1, apP_cons]
theorem f176_e {a : Nat} (hF : 5000 ≤ F) (hs : ∀ t, t < l.length → σ.1 1323 (a + t) = l.getD t 0) (hO : okB l) (he : σ.1 1315 14 = Int32.ofNat e) (h1 : e + l.length ≤ 4300) (h2 : a + l.length ≤ 4300) : f176 F (Int32.ofNat a) (Int32.ofNat l.length) σ = oV (apP σ e l) := by
  obtain ⟨k, hk⟩ : ∃ k, F = k + l.length + 1 := ⟨F - l.length - 1, by omega⟩
  have a0 := f176_2_e (F := F) (a := a) (n := l.length) l k 0 e σ hs hO he h1 (by omega) (by omega)
  rw [← hk] at a0
  unfold f176
  exact a0
end APP
/-- a node placed at the end of the new tree -/
def plN (σ : St) (n k lv e : Nat) : St := uI (uI (uI (uI (uI (uI (uI σ 1326 n (Int32.ofNat k)) 1327 n (Int32.ofNat lv)) 1328 n (Int32.ofNat e)) 1329 n 0) 1330 n (Int32.ofNat e)) 1331 n 0) 1315 13 (Int32.ofNat (n + 1))
theorem plN_ag {σ τ : St} {n k lv e : Nat} (h : agN σ τ) : agN σ (plN τ n k lv e) := ((((((h.uA (by decide)).uA (by decide)).uA (by decide)).uA (by decide)).uA (by decide)).uA (by decide)).uF (Or.inl rfl)
section PLC
variable {F n k lv e : Nat} {σ : St}
theorem f175_49_e (hn : σ.1 1315 13 = Int32.ofNat n) (he : σ.1 1315 14 = Int32.ofNat e) (h30 : n < 31) : f175_49 F (Int32.ofNat k) (Int32.ofNat lv) σ = oI (Int32.ofNat n) (plN σ n k lv e) := by
  have q1 := oN_n (show n < 2147483648 by omega)
  have i1 : inB (Int32.ofNat n) 31 := oN_rg h30 (by decide)
  unfold f175_49 plN
  rw [ltE, hn, if_pos i1, ltE]
  simp only [q1]
  generalize e0 : uI σ 1326 n (Int32.ofNat k) = τ0
  have c0 : τ0.1 1315 13 = Int32.ofNat n := by rw [← e0, u_ne (by decide)]; exact hn
  have d0 : τ0.1 1315 14 = Int32.ofNat e := by rw [← e0, u_ne (by decide)]; exact he
  rw [ltE, c0, if_pos i1, ltE]
  simp only [q1]
  generalize e1 : uI τ0 1327 n (Int32.ofNat lv) = τ1
  have c1 : τ1.1 1315 13 = Int32.ofNat n := by rw [← e1, u_ne (by decide)]; exact c0
  have d1 : τ1.1 1315 14 = Int32.ofNat e := by rw [← e1, u_ne (by decide)]; exact d0
  rw [ltE, c1, ltE, d1, if_pos i1, ltE]
  simp only [q1]
  generalize e2 : uI τ1 1328 n (Int32.ofNat e) = τ2
  have c2 : τ2.1 1315 13 = Int32.ofNat n := by rw [← e2, u_ne (by decide)]; exact c1
  have d2 : τ2.1 1315 14 = Int32.ofNat e := by rw [← e2, u_ne (by decide)]; exact d1
  rw [ltE, c2, if_pos i1, ltE]
  simp only [q1]
  generalize e3 : uI τ2 1329 n 0 = τ3
  have c3 : τ3.1 1315 13 = Int32.ofNat n := by rw [← e3, u_ne (by decide)]; exact c2
  have d3 : τ3.1 1315 14 = Int32.ofNat e := by rw [← e3, u_ne (by decide)]; exact d2
  rw [ltE, c3, ltE, d3, if_pos i1, ltE]
  simp only [q1]
  generalize e4 : uI τ3 1330 n (Int32.ofNat e) = τ4
  have c4 : τ4.1 1315 13 = Int32.ofNat n := by rw [← e4, u_ne (by decide)]; exact c3
  rw [ltE, c4, if_pos i1, ltE]
  simp only [q1]
  generalize e5 : uI τ4 1331 n 0 = τ5
  have c5 : τ5.1 1315 13 = Int32.ofNat n := by rw [← e5, u_ne (by decide)]; exact c4
  rw [ltE, c5, oN_p1, ltE, ltE, u_eq, oN_s1]
end PLC
/-- the new tree -/
def nTr (σ : St) (ns : List Nd) (e : Nat) : Prop := σ.1 1315 13 = Int32.ofNat ns.length ∧ σ.1 1315 14 = Int32.ofNat e ∧ ∀ i, i < ns.length → σ.1 1326 i = Int32.ofNat (nd ns i).1 ∧ σ.1 1327 i = Int32.ofNat (nd ns i).2.1 ∧ σ.1 1329 i = Int32.ofNat (nd ns i).2.2.1.length ∧ σ.1 1331 i = Int32.ofNat (nd ns i).2.2.2.length ∧ ∃ na ta, σ.1 1328 i = Int32.ofNat na ∧ σ.1 1330 i = Int32.ofNat ta ∧ na + (nd ns i).2.2.1.length ≤ e ∧ ta + (nd ns i).2.2.2.length ≤ e ∧ (∀ j, j < (nd ns i).2.2.1.length → σ.1 1332 (na + j) = (nd ns i).2.2.1.getD j 0) ∧ (∀ j, j < (nd ns i).2.2.2.length → σ.1 1332 (ta + j) = (nd ns i).2.2.2.getD j 0) ∧ (i + 1 = ns.length → (nd ns i).1 = 3 → ta + (nd ns i).2.2.2.length = e)
abbrev mgb (ns : List Nd) (x : Nd) : Prop := x.1 = 3 ∧ 0 < ns.length ∧ (nd ns (ns.length - 1)).1 = 3 ∧ (nd ns (ns.length - 1)).2.1 = x.2.1
def addN (ns : List Nd) (x : Nd) : List Nd := if mgb ns x then ns.take (ns.length - 1) ++ [(3, x.2.1, (nd ns (ns.length - 1)).2.2.1, (nd ns (ns.length - 1)).2.2.2 ++ x.2.2.2)] else ns ++ [x]
section PLD
variable {F e : Nat} {ns : List Nd} {x : Nd} {σ : St}
theorem f175_n (h : nTr σ ns e) (hl : lvOk ns) (hn : ns.length < 31) (hx : x.1 ≤ 1000 ∧ x.2.1 ≤ 1000) (hm : ¬ mgb ns x) : f175 F (Int32.ofNat x.1) (Int32.ofNat x.2.1) σ = oI (Int32.ofNat ns.length) (plN σ ns.length x.1 x.2.1 e) := by
  have z := f175_49_e (F := F) (k := x.1) (lv := x.2.1) h.1 h.2.1 hn
  unfold f175
  by_cases h3 : x.1 = 3
  · by_cases h0 : 0 < ns.length
    · have q1 := oN_n (show ns.length - 1 < 2147483648 by omega)
      have i1 : inB (Int32.ofNat (ns.length - 1)) 31 := oN_rg (by omega) (by decide)
      have e1 : Int32.ofNat ns.length - 1 = Int32.ofNat (ns.length - 1) := by
        rw [show (1 : Int32) = Int32.ofNat 1 from rfl, oN_sb (by omega)]
      have k := h.2.2 (ns.length - 1) (by omega)
      have b := hl.2 (ns.length - 1) (by omega)
      rw [h3, if_pos (by rfl), ltE, h.1, if_pos (show (0 : Int32) < Int32.ofNat ns.length from (oN_lt (p := 0) (by decide) (by omega)).mpr h0), ltE, e1, if_pos i1, ltE]
      simp only [q1]
      rw [k.1]
      rw [h3] at z
      by_cases k3 : (nd ns (ns.length - 1)).1 = 3
      · rw [k3, if_pos (by rfl), ltE, e1, if_pos i1, ltE]
        simp only [q1]
        rw [k.2.1, if_neg (fun g => hm ⟨h3, h0, k3, (oN_eq (by omega) (by omega)).mp g⟩)]
        exact z
      · rw [if_neg (fun g => k3 ((oE3 (by omega)).mp g))]
        exact z
    · rw [h3, if_pos (by rfl), ltE, h.1, if_neg (show ¬ (0 : Int32) < Int32.ofNat ns.length from fun g => h0 ((oN_lt (p := 0) (by decide) (by omega)).mp g))]
      rw [h3] at z
      exact z
  · rw [if_neg (fun g => h3 ((oE3 (by omega)).mp g))]
    exact z
theorem f175_m (h : nTr σ ns e) (hn : ns.length < 31) (hm : mgb ns x) : f175 F (Int32.ofNat x.1) (Int32.ofNat x.2.1) σ = oI (Int32.ofNat (ns.length - 1)) σ := by
  have h0 := hm.2.1
  have q1 := oN_n (show ns.length - 1 < 2147483648 by omega)
  have i1 : inB (Int32.ofNat (ns.length - 1)) 31 := oN_rg (by omega) (by decide)
  have e1 : Int32.ofNat ns.length - 1 = Int32.ofNat (ns.length - 1) := by
    rw [show (1 : Int32) = Int32.ofNat 1 from rfl, oN_sb (by omega)]
  have k := h.2.2 (ns.length - 1) (by omega)
  unfold f175
  rw [hm.1, if_pos (by rfl), ltE, h.1, if_pos (show (0 : Int32) < Int32.ofNat ns.length from (oN_lt (p := 0) (by decide) (by omega)).mpr h0), ltE, e1, if_pos i1, ltE]
  simp only [q1]
  rw [k.1, hm.2.2.1, if_pos (by rfl), ltE, e1, if_pos i1, ltE]
  simp only [q1]
  rw [k.2.1, hm.2.2.2, if_pos (by rfl), ltE, e1]
end PLD
