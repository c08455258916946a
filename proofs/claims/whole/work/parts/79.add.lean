/-! THE REFERENCE ADDS A NODE to the new tree -/
def stN (σ τ : St) (n : Nat) (x : Nd) (e : Nat) : Prop := τ.1 1315 13 = Int32.ofNat (n + 1) ∧ τ.1 1315 14 = Int32.ofNat (e + x.2.2.1.length + x.2.2.2.length) ∧ (∀ i, i ≠ n → τ.1 1326 i = σ.1 1326 i ∧ τ.1 1327 i = σ.1 1327 i ∧ τ.1 1328 i = σ.1 1328 i ∧ τ.1 1329 i = σ.1 1329 i ∧ τ.1 1330 i = σ.1 1330 i ∧ τ.1 1331 i = σ.1 1331 i) ∧ (τ.1 1326 n = Int32.ofNat x.1 ∧ τ.1 1327 n = Int32.ofNat x.2.1 ∧ τ.1 1328 n = Int32.ofNat e ∧ τ.1 1329 n = Int32.ofNat x.2.2.1.length ∧ τ.1 1330 n = Int32.ofNat (e + x.2.2.1.length) ∧ τ.1 1331 n = Int32.ofNat x.2.2.2.length) ∧ (∀ i, i < e → τ.1 1332 i = σ.1 1332 i) ∧ (∀ j, j < x.2.2.1.length → τ.1 1332 (e + j) = x.2.2.1.getD j 0) ∧ (∀ j, j < x.2.2.2.length → τ.1 1332 (e + x.2.2.1.length + j) = x.2.2.2.getD j 0)
theorem nd_snoc {ns : List Nd} {x : Nd} {i : Nat} : nd (ns ++ [x]) i = if i < ns.length then nd ns i else if i = ns.length then x else doc0 := by
  rw [ndApp]
  by_cases c1 : i < ns.length
  · rw [if_pos c1, if_pos c1]
  · rw [if_neg c1, if_neg c1]
    by_cases c2 : i = ns.length
    · rw [if_pos c2, c2, Nat.sub_self]
      rfl
    · rw [if_neg c2]
      obtain ⟨d, hd⟩ : ∃ d, i - ns.length = d + 1 := ⟨i - ns.length - 1, by omega⟩
      rw [hd]
      rfl
theorem nTr.add {σ τ : St} {ns : List Nd} {x : Nd} {e : Nat} (h : nTr σ ns e) (g : stN σ τ ns.length x e) : nTr τ (ns ++ [x]) (e + x.2.2.1.length + x.2.2.2.length) := by
  obtain ⟨g1, g2, g3, g4, g5, g6, g7⟩ := g
  refine ⟨by rw [List.length_append, List.length_cons, List.length_nil]; exact g1, g2, fun i hi => ?_⟩
  rw [List.length_append, List.length_cons, List.length_nil] at hi
  by_cases c1 : i < ns.length
  · have k := h.2.2 i c1
    have w := g3 i (by omega)
    rw [nd_snoc, if_pos c1, w.1, w.2.1, w.2.2.2.1, w.2.2.2.2.2, w.2.2.1, w.2.2.2.2.1]
    obtain ⟨k1, k2, k3, k4, na, ta, k5, k6, k7, k8, k9, k10, k11⟩ := k
    refine ⟨k1, k2, k3, k4, na, ta, k5, k6, by omega, by omega, fun j hj => ?_, fun j hj => ?_, fun hh => ?_⟩
    · rw [g5 _ (by omega)]
      exact k9 j hj
    · rw [g5 _ (by omega)]
      exact k10 j hj
    · rw [List.length_append, List.length_cons, List.length_nil] at hh
      omega
  · have c2 : i = ns.length := by omega
    rw [nd_snoc, if_neg c1, if_pos c2, c2]
    exact ⟨g4.1, g4.2.1, g4.2.2.2.1, g4.2.2.2.2.2, e, e + x.2.2.1.length, g4.2.2.1, g4.2.2.2.2.1, by omega, by omega, g6, g7, fun _ _ => rfl⟩
def endN (σ : St) (n : Nat) (x : Nd) (e : Nat) : St := uI (apP (uI (uI (apP (uI (plN σ n x.1 x.2.1 e) 1328 n (Int32.ofNat e)) e x.2.2.1) 1329 n (Int32.ofNat x.2.2.1.length)) 1330 n (Int32.ofNat (e + x.2.2.1.length))) (e + x.2.2.1.length) x.2.2.2) 1331 n (Int32.ofNat x.2.2.2.length)
theorem endN_ag {σ τ : St} {n e : Nat} {x : Nd} (h : agN σ τ) : agN σ (endN τ n x e) := (apP_ag (((apP_ag ((plN_ag h).uA (by decide))).uA (by decide)).uA (by decide))).uA (by decide)
section PLR
variable {σ : St} {n k lv e i : Nat}
theorem plN_26 : (plN σ n k lv e).1 1326 i = if i = n then Int32.ofNat k else σ.1 1326 i := by
  unfold plN
  rw [u_ne (by decide), u_ne (by decide), u_ne (by decide), u_ne (by decide), u_ne (by decide), u_ne (by decide), u_at]
theorem plN_27 : (plN σ n k lv e).1 1327 i = if i = n then Int32.ofNat lv else σ.1 1327 i := by
  unfold plN
  rw [u_ne (by decide), u_ne (by decide), u_ne (by decide), u_ne (by decide), u_ne (by decide), u_at, u_ne (by decide)]
theorem plN_28 : (plN σ n k lv e).1 1328 i = if i = n then Int32.ofNat e else σ.1 1328 i := by
  unfold plN
  rw [u_ne (by decide), u_ne (by decide), u_ne (by decide), u_ne (by decide), u_at, u_ne (by decide), u_ne (by decide)]
theorem plN_29 : (plN σ n k lv e).1 1329 i = if i = n then 0 else σ.1 1329 i := by
  unfold plN
  rw [u_ne (by decide), u_ne (by decide), u_ne (by decide), u_at, u_ne (by decide), u_ne (by decide), u_ne (by decide)]
theorem plN_30 : (plN σ n k lv e).1 1330 i = if i = n then Int32.ofNat e else σ.1 1330 i := by
  unfold plN
  rw [u_ne (by decide), u_ne (by decide), u_at, u_ne (by decide), u_ne (by decide), u_ne (by decide), u_ne (by decide)]
theorem plN_31 : (plN σ n k lv e).1 1331 i = if i = n then 0 else σ.1 1331 i := by
  unfold plN
  rw [u_ne (by decide), u_at, u_ne (by decide), u_ne (by decide), u_ne (by decide), u_ne (by decide), u_ne (by decide)]
theorem plN_31n : (plN σ n k lv e).1 1331 n = 0 := by
  rw [plN_31, if_pos rfl]
theorem plN_32 : (plN σ n k lv e).1 1332 i = σ.1 1332 i := by
  unfold plN
  rw [u_ne (by decide), u_ne (by decide), u_ne (by decide), u_ne (by decide), u_ne (by decide), u_ne (by decide), u_ne (by decide)]
theorem plN_f : (plN σ n k lv e).1 1315 i = if i = 13 then Int32.ofNat (n + 1) else σ.1 1315 i := by
  unfold plN
  rw [u_at, u_ne (by decide), u_ne (by decide), u_ne (by decide), u_ne (by decide), u_ne (by decide), u_ne (by decide)]
theorem plN_14 : (plN σ n k lv e).1 1315 14 = σ.1 1315 14 := by
  rw [plN_f, if_neg (by decide)]
end PLR
theorem endN_st {σ : St} {n e : Nat} {x : Nd} : stN σ (endN σ n x e) n x e := by
  unfold endN
  refine ⟨?_, ?_, fun i hi => ⟨?_, ?_, ?_, ?_, ?_, ?_⟩, ⟨?_, ?_, ?_, ?_, ?_, u_eq⟩, fun i hi => ?_, fun j hj => ?_, fun j hj => ?_⟩
  · rw [u_ne (by decide), apP_f (by decide), u_ne (by decide), u_ne (by decide), apP_f (by decide), u_ne (by decide), plN_f, if_pos (by rfl)]
  · rw [u_ne (by decide), apP_14]
  · rw [u_ne (by decide), apP_o (by decide) (by decide), u_ne (by decide), u_ne (by decide), apP_o (by decide) (by decide), u_ne (by decide), plN_26, if_neg hi]
  · rw [u_ne (by decide), apP_o (by decide) (by decide), u_ne (by decide), u_ne (by decide), apP_o (by decide) (by decide), u_ne (by decide), plN_27, if_neg hi]
  · rw [u_ne (by decide), apP_o (by decide) (by decide), u_ne (by decide), u_ne (by decide), apP_o (by decide) (by decide), u_at, if_neg hi, plN_28, if_neg hi]
  · rw [u_ne (by decide), apP_o (by decide) (by decide), u_ne (by decide), u_at, if_neg hi, apP_o (by decide) (by decide), u_ne (by decide), plN_29, if_neg hi]
  · rw [u_ne (by decide), apP_o (by decide) (by decide), u_at, if_neg hi, u_ne (by decide), apP_o (by decide) (by decide), u_ne (by decide), plN_30, if_neg hi]
  · rw [u_at, if_neg hi, apP_o (by decide) (by decide), u_ne (by decide), u_ne (by decide), apP_o (by decide) (by decide), u_ne (by decide), plN_31, if_neg hi]
  · rw [u_ne (by decide), apP_o (by decide) (by decide), u_ne (by decide), u_ne (by decide), apP_o (by decide) (by decide), u_ne (by decide), plN_26, if_pos (by rfl)]
  · rw [u_ne (by decide), apP_o (by decide) (by decide), u_ne (by decide), u_ne (by decide), apP_o (by decide) (by decide), u_ne (by decide), plN_27, if_pos (by rfl)]
  · rw [u_ne (by decide), apP_o (by decide) (by decide), u_ne (by decide), u_ne (by decide), apP_o (by decide) (by decide), u_eq]
  · rw [u_ne (by decide), apP_o (by decide) (by decide), u_ne (by decide), u_eq]
  · rw [u_ne (by decide), apP_o (by decide) (by decide), u_eq]
  · rw [u_ne (by decide), apP_p, if_neg (by omega), u_ne (by decide), u_ne (by decide), apP_p, if_neg (by omega), u_ne (by decide), plN_32]
  · rw [u_ne (by decide), apP_p, if_neg (by omega), u_ne (by decide), u_ne (by decide), apP_p, if_pos (by omega), show e + j - e = j by omega]
  · rw [u_ne (by decide), apP_p, if_pos (by omega), show e + x.2.2.1.length + j - (e + x.2.2.1.length) = j by omega]
/-- a text that is joined to the last -/
def endM (σ : St) (n : Nat) (t : Nat) (l : List Int32) (e : Nat) : St := uI (apP σ e l) 1331 n (Int32.ofNat (t + l.length))
theorem endM_ag {σ τ : St} {n t e : Nat} {l : List Int32} (h : agN σ τ) : agN σ (endM τ n t l e) := (apP_ag h).uA (by decide)
theorem nTr.mrg {σ : St} {ns : List Nd} {x : Nd} {e : Nat} (h : nTr σ ns e) (hm : mgb ns x) : nTr (endM σ (ns.length - 1) (nd ns (ns.length - 1)).2.2.2.length x.2.2.2 e) (addN ns x) (e + x.2.2.2.length) := by
  have h0 := hm.2.1
  have w1 : (ns.take (ns.length - 1)).length = ns.length - 1 := by rw [List.length_take]; omega
  have hlen : (addN ns x).length = ns.length := by
    unfold addN
    rw [if_pos hm, List.length_append, w1, List.length_cons, List.length_nil]
    omega
  have hnd : ∀ i, i < ns.length → nd (addN ns x) i = if i = ns.length - 1 then (3, x.2.1, (nd ns (ns.length - 1)).2.2.1, (nd ns (ns.length - 1)).2.2.2 ++ x.2.2.2) else nd ns i := fun i hi => by
    unfold addN
    rw [if_pos hm, nd_snoc, w1]
    by_cases c : i = ns.length - 1
    · rw [if_neg (by omega), if_pos c, if_pos c]
    · rw [if_pos (by omega), if_neg c, ndTake, if_pos (by omega)]
  unfold endM
  refine ⟨by rw [u_ne (by decide), apP_f (by decide), hlen]; exact h.1, by rw [u_ne (by decide), apP_14], fun i hi => ?_⟩
  rw [hlen] at hi
  obtain ⟨k1, k2, k3, k4, na, ta, k5, k6, k7, k8, k9, k10, k11⟩ := h.2.2 i hi
  rw [hnd i hi, u_ne (by decide), u_ne (by decide), u_ne (by decide), u_at, u_ne (by decide), u_ne (by decide), u_ne (by decide), apP_o (by decide) (by decide), apP_o (by decide) (by decide), apP_o (by decide) (by decide), apP_o (by decide) (by decide), apP_o (by decide) (by decide), apP_o (by decide) (by decide)]
  by_cases c : i = ns.length - 1
  · rw [if_pos c, if_pos c]
    have k12 := k11 (by omega) (by rw [c]; exact hm.2.2.1)
    have hm3 := hm.2.2.1
    have hm4 := hm.2.2.2
    rw [← c] at hm3 hm4 ⊢
    refine ⟨k1.trans (by rw [hm3]), k2.trans (by rw [hm4]), k3, by rw [List.length_append], na, ta, k5, k6, by dsimp only; omega, by rw [List.length_append]; omega, fun j hj => ?_, fun j hj => ?_, fun _ _ => by rw [List.length_append]; omega⟩
    · rw [apP_p, if_neg (by dsimp only at hj; omega)]
      exact k9 j hj
    · rw [List.length_append] at hj
      rw [apP_p]
      by_cases c2 : j < (nd ns i).2.2.2.length
      · rw [if_neg (by omega), getD_app, if_pos c2]
        exact k10 j c2
      · rw [if_pos (by omega), getD_app, if_neg c2, show ta + j - e = j - (nd ns i).2.2.2.length by omega]
  · rw [if_neg c, if_neg c]
    refine ⟨k1, k2, k3, k4, na, ta, k5, k6, by omega, by omega, fun j hj => ?_, fun j hj => ?_, fun hh => ?_⟩
    · rw [apP_p, if_neg (by omega)]
      exact k9 j hj
    · rw [apP_p, if_neg (by omega)]
      exact k10 j hj
    · rw [hlen] at hh
      omega
/-- a node of the reference's tree -/
def mNd (σ : St) (p : Nat) (x : Nd) : Prop := σ.1 1317 p = Int32.ofNat x.1 ∧ σ.1 1318 p = Int32.ofNat x.2.1 ∧ σ.1 1320 p = Int32.ofNat x.2.2.1.length ∧ σ.1 1322 p = Int32.ofNat x.2.2.2.length ∧ ∃ na ta, σ.1 1319 p = Int32.ofNat na ∧ σ.1 1321 p = Int32.ofNat ta ∧ na + x.2.2.1.length ≤ 4300 ∧ ta + x.2.2.2.length ≤ 4300 ∧ (∀ j, j < x.2.2.1.length → σ.1 1323 (na + j) = x.2.2.1.getD j 0) ∧ (∀ j, j < x.2.2.2.length → σ.1 1323 (ta + j) = x.2.2.2.getD j 0)
theorem mNd.fr {σ τ : St} {p : Nat} {x : Nd} (h : mNd σ p x) (e : ∀ a, 1317 ≤ a → a ≤ 1323 → τ.1 a = σ.1 a) : mNd τ p x := by
  unfold mNd
  rw [e 1317 (by omega) (by omega), e 1318 (by omega) (by omega), e 1319 (by omega) (by omega), e 1320 (by omega) (by omega), e 1321 (by omega) (by omega), e 1322 (by omega) (by omega), e 1323 (by omega) (by omega)]
  exact h
section ADO
variable {F p e : Nat} {ns : List Nd} {x : Nd} {σ : St}
theorem f174_74_e {q t : Nat} (hF : 5000 ≤ F) (hx : mNd σ p x) (hO : okB x.2.2.2) (hp : p < 31) (hq : q < 31) (he : σ.1 1315 14 = Int32.ofNat e) (h1 : e + x.2.2.2.length ≤ 4300) (ht : σ.1 1331 q = Int32.ofNat t) : f174_74 F (Int32.ofNat p) (Int32.ofNat q) σ = oV (endM σ q t x.2.2.2 e) := by
  have q1 := oN_n (show p < 2147483648 by omega)
  have q2 := oN_n (show q < 2147483648 by omega)
  have i1 : inB (Int32.ofNat p) 31 := oN_rg hp (by decide)
  have i2 : inB (Int32.ofNat q) 31 := oN_rg hq (by decide)
  obtain ⟨x1, x2, x3, x4, na, ta, x5, x6, x7, x8, x9, x10⟩ := hx
  unfold f174_74
  rw [if_pos i1, ltE, if_pos i1, ltE]
  simp only [q1]
  rw [x6, x4, f176_e hF x10 hO he h1 x8, cVo, if_pos i2, ltE]
  simp only [q2]
  rw [if_pos i1, ltE, apP_o (a := 1322) (by decide) (by decide), apP_o (a := 1331) (by decide) (by decide), ht, x4, oN_ad, if_pos i2, ltE]
  rfl
theorem f174_n (hF : 5000 ≤ F) (hx : mNd σ p x) (hO : okB x.2.2.1 ∧ okB x.2.2.2) (hp : p < 31) (h : nTr σ ns e) (hl : lvOk ns) (hk : x.1 ≤ 1000 ∧ x.2.1 ≤ 1000) (hm : ¬ mgb ns x) (h1 : e + x.2.2.1.length + x.2.2.2.length ≤ 4300) : f174 F (Int32.ofNat p) σ = oV (endN σ ns.length x e) := by
  have hn : ns.length < 31 := by have := hl.1; omega
  have q1 := oN_n (show p < 2147483648 by omega)
  have q2 := oN_n (show ns.length < 2147483648 by omega)
  have i1 : inB (Int32.ofNat p) 31 := oN_rg hp (by decide)
  have i2 : inB (Int32.ofNat ns.length) 31 := oN_rg hn (by decide)
  have x0 := hx
  obtain ⟨x1, x2, x3, x4, na, ta, x5, x6, x7, x8, x9, x10⟩ := hx
  unfold f174
  rw [if_pos i1, ltE, if_pos i1, ltE]
  simp only [q1]
  rw [x1, x2, f175_n h hl hn hk hm, cIo, if_pos i2, ltE]
  simp only [q2]
  rw [plN_31n, if_pos (by rfl), ltE, plN_14, h.2.1, if_pos i2, ltE]
  have g1 : agN σ (uI (plN σ ns.length x.1 x.2.1 e) 1328 ns.length (Int32.ofNat e)) := (plN_ag agN.refl).uA (by decide)
  have f1 : (uI (plN σ ns.length x.1 x.2.1 e) 1328 ns.length (Int32.ofNat e)).1 1315 14 = Int32.ofNat e := by
    rw [u_ne (by decide), plN_f, if_neg (by decide)]
    exact h.2.1
  have f2 : (uI (plN σ ns.length x.1 x.2.1 e) 1328 ns.length (Int32.ofNat e)).1 1331 ns.length = 0 := by
    rw [u_ne (by decide), plN_31, if_pos (by rfl)]
  unfold endN
  generalize uI (plN σ ns.length x.1 x.2.1 e) 1328 ns.length (Int32.ofNat e) = σ1 at g1 f1 f2 ⊢
  rw [if_pos i1, ltE, if_pos i1, ltE, g1.1 1319 (by omega), g1.1 1320 (by omega), x5, x3, f176_e hF (fun t ht => by rw [g1.1 1323 (by omega)]; exact x9 t ht) hO.1 f1 (by omega) x7, cVo]
  have g2 : agN σ (apP σ1 e x.2.2.1) := apP_ag g1
  have f3 : (apP σ1 e x.2.2.1).1 1315 14 = Int32.ofNat (e + x.2.2.1.length) := apP_14
  have f4 : (apP σ1 e x.2.2.1).1 1331 ns.length = 0 := by
    rw [apP_o (by decide) (by decide)]
    exact f2
  generalize apP σ1 e x.2.2.1 = σ2 at g2 f3 f4 ⊢
  rw [if_pos i1, ltE, g2.1 1320 (by omega), x3, if_pos i2, ltE]
  have g3 := g2.uA (a := 1329) (j := ns.length) (x := Int32.ofNat x.2.2.1.length) (by decide)
  rw [ltE, u_ne (by decide), f3, if_pos i2, ltE]
  have g4 := g3.uA (a := 1330) (j := ns.length) (x := Int32.ofNat (e + x.2.2.1.length)) (by decide)
  have f5 : (uI (uI σ2 1329 ns.length (Int32.ofNat x.2.2.1.length)) 1330 ns.length (Int32.ofNat (e + x.2.2.1.length))).1 1315 14 = Int32.ofNat (e + x.2.2.1.length) := by
    rw [u_ne (by decide), u_ne (by decide)]
    exact f3
  have f6 : (uI (uI σ2 1329 ns.length (Int32.ofNat x.2.2.1.length)) 1330 ns.length (Int32.ofNat (e + x.2.2.1.length))).1 1331 ns.length = Int32.ofNat 0 := by
    rw [u_ne (by decide), u_ne (by decide)]
    exact f4
  generalize uI (uI σ2 1329 ns.length (Int32.ofNat x.2.2.1.length)) 1330 ns.length (Int32.ofNat (e + x.2.2.1.length)) = σ3 at g4 f5 f6 ⊢
  rw [f174_74_e hF (x0.fr (fun a h1 h2 => g4.1 a (by omega))) hO.2 hp hn f5 h1 f6]
  unfold endM
  rw [Nat.zero_add]
theorem f174_m (hF : 5000 ≤ F) (hx : mNd σ p x) (hO : okB x.2.2.1 ∧ okB x.2.2.2) (hp : p < 31) (h : nTr σ ns e) (hl : lvOk ns) (hm : mgb ns x) (hne : (nd ns (ns.length - 1)).2.2.2 ≠ []) (hln : (nd ns (ns.length - 1)).2.2.2.length ≤ 100000) (h1 : e + x.2.2.2.length ≤ 4300) : f174 F (Int32.ofNat p) σ = oV (endM σ (ns.length - 1) (nd ns (ns.length - 1)).2.2.2.length x.2.2.2 e) := by
  have hn : ns.length < 31 := by have := hl.1; omega
  have h0 := hm.2.1
  have q1 := oN_n (show p < 2147483648 by omega)
  have q2 := oN_n (show ns.length - 1 < 2147483648 by omega)
  have i1 : inB (Int32.ofNat p) 31 := oN_rg hp (by decide)
  have i2 : inB (Int32.ofNat (ns.length - 1)) 31 := oN_rg (by omega) (by decide)
  have k := h.2.2 (ns.length - 1) (by omega)
  have hpos : 0 < (nd ns (ns.length - 1)).2.2.2.length := List.length_pos_iff.mpr hne
  have hnz : ¬ Int32.ofNat (nd ns (ns.length - 1)).2.2.2.length = 0 := fun g => by
    have := (oE0 (by omega)).mp g
    omega
  unfold f174
  rw [if_pos i1, ltE, if_pos i1, ltE]
  simp only [q1]
  rw [hx.1, hx.2.1, f175_m h hn hm, cIo, if_pos i2, ltE]
  simp only [q2]
  rw [k.2.2.2.1, if_neg hnz, f174_74_e hF hx hO.2 hp (by omega) h.2.1 h1 k.2.2.2.1]
end ADO
