/-! THE REFERENCE ADDS A NODE THAT HAS BEEN READ -/
section ADM
variable {F d n na : Nat} {y1 y3 : Int32}
theorem f177_41_l (hd : d < 31) : ∀ (l : List Int32) (k j e : Nat) (σ : St), σ.1 1336 d = Int32.ofNat n → σ.1 1335 d = Int32.ofNat na → (∀ t, t < l.length → σ.1 1316 (na + j + t) = l.getD t 0) → okB l → σ.1 1315 14 = Int32.ofNat e → e + l.length ≤ 4300 → na + n ≤ 122 → j + l.length = n → f177_41 F (k + l.length) (Int32.ofNat d) y3 (Int32.ofNat j) σ = f177_41 F k (Int32.ofNat d) y3 (Int32.ofNat n) (apP σ e l) := by
  have q1 := oN_n (show d < 2147483648 by omega)
  have i1 : inB (Int32.ofNat d) 31 := oN_rg hd (by decide)
  intro l
  induction l with
  | nil =>
    intro k j e σ _ _ _ _ he _ _ hj
    rw [List.length_nil] at hj ⊢
    rw [apP_nil he, show j = n by omega, Nat.add_zero]
  | cons c l ih =>
    intro k j e σ h6 h5 hsrc hO he h1 h2 hj
    rw [List.length_cons] at hj h1
    obtain ⟨w, w1, w2, w3⟩ := hO 0 (by rw [List.length_cons]; omega)
    have w4 : c = Int32.ofNat w := w3
    have s0 : σ.1 1316 (na + j) = c := hsrc 0 (by rw [List.length_cons]; omega)
    have n1 : vp_nar .char (((c : Int32).toUInt32 % 65536).toInt32) = c := by
      rw [w4]
      exact chN_id w w2
    have i2 := ih k (j + 1) (e + 1) (uI (uI σ 1332 e c) 1315 14 (Int32.ofNat (e + 1))) (by rw [u_ne (by decide), u_ne (by decide)]; exact h6) (by rw [u_ne (by decide), u_ne (by decide)]; exact h5) (fun t ht => by
      rw [u_ne (by decide), u_ne (by decide), show na + (j + 1) + t = na + j + (t + 1) by omega]
      exact hsrc (t + 1) (by rw [List.length_cons]; omega)) (fun p hp => hO (p + 1) (by rw [List.length_cons]; omega)) u_eq (by omega) (by omega) (by omega)
    rw [List.length_cons, show k + (l.length + 1) = (k + l.length) + 1 by omega, f177_41.eq_2, if_pos i1, ltE]
    simp only [q1]
    rw [h6, if_pos ((oN_lt (by omega) (by omega)).mpr (by omega)), ltE, he, if_pos i1, ltE, h5, oN_ad, if_pos (oN_rg (by omega) (by decide)), ltE, if_pos (oN_rg (by omega) (by decide)), ltE, oN_n (by omega), oN_n (by omega), s0, n1, ltE, u_ne (by decide), he, oN_p1, oN_p1, ltE, i2, apP_cons]
theorem f177_117_l (hd : d < 31) : ∀ (l : List Int32) (k j e : Nat) (σ : St), σ.1 1338 d = Int32.ofNat n → σ.1 1337 d = Int32.ofNat na → (∀ t, t < l.length → σ.1 1339 (na + j + t) = l.getD t 0) → okB l → σ.1 1315 14 = Int32.ofNat e → e + l.length ≤ 4300 → na + n ≤ 122 → j + l.length = n → f177_117 F (k + l.length) (Int32.ofNat d) y3 (Int32.ofNat j) σ = f177_117 F k (Int32.ofNat d) y3 (Int32.ofNat n) (apP σ e l) := by
  have q1 := oN_n (show d < 2147483648 by omega)
  have i1 : inB (Int32.ofNat d) 31 := oN_rg hd (by decide)
  intro l
  induction l with
  | nil =>
    intro k j e σ _ _ _ _ he _ _ hj
    rw [List.length_nil] at hj ⊢
    rw [apP_nil he, show j = n by omega, Nat.add_zero]
  | cons c l ih =>
    intro k j e σ h6 h5 hsrc hO he h1 h2 hj
    rw [List.length_cons] at hj h1
    obtain ⟨w, w1, w2, w3⟩ := hO 0 (by rw [List.length_cons]; omega)
    have w4 : c = Int32.ofNat w := w3
    have s0 : σ.1 1339 (na + j) = c := hsrc 0 (by rw [List.length_cons]; omega)
    have n1 : vp_nar .char (((c : Int32).toUInt32 % 65536).toInt32) = c := by
      rw [w4]
      exact chN_id w w2
    have i2 := ih k (j + 1) (e + 1) (uI (uI σ 1332 e c) 1315 14 (Int32.ofNat (e + 1))) (by rw [u_ne (by decide), u_ne (by decide)]; exact h6) (by rw [u_ne (by decide), u_ne (by decide)]; exact h5) (fun t ht => by
      rw [u_ne (by decide), u_ne (by decide), show na + (j + 1) + t = na + j + (t + 1) by omega]
      exact hsrc (t + 1) (by rw [List.length_cons]; omega)) (fun p hp => hO (p + 1) (by rw [List.length_cons]; omega)) u_eq (by omega) (by omega) (by omega)
    rw [List.length_cons, show k + (l.length + 1) = (k + l.length) + 1 by omega, f177_117.eq_2, if_pos i1, ltE]
    simp only [q1]
    rw [h6, if_pos ((oN_lt (by omega) (by omega)).mpr (by omega)), ltE, he, if_pos i1, ltE, h5, oN_ad, if_pos (oN_rg (by omega) (by decide)), ltE, if_pos (oN_rg (by omega) (by decide)), ltE, oN_n (by omega), oN_n (by omega), s0, n1, ltE, u_ne (by decide), he, oN_p1, oN_p1, ltE, i2, apP_cons]
end ADM
/-- a node that has been read -/
def dNd (σ : St) (d : Nat) (y : Md) (x : Nd) : Prop := σ.1 1333 d = Int32.ofNat y.1 ∧ σ.1 1334 d = Int32.ofNat y.2.1 ∧ σ.1 1335 d = Int32.ofNat y.2.2.1 ∧ σ.1 1336 d = Int32.ofNat y.2.2.2.1 ∧ σ.1 1337 d = Int32.ofNat y.2.2.2.2.1 ∧ σ.1 1338 d = Int32.ofNat y.2.2.2.2.2 ∧ y.2.2.2.1 = x.2.2.1.length ∧ y.2.2.2.2.2 = x.2.2.2.length ∧ y.2.2.1 + y.2.2.2.1 ≤ 122 ∧ y.2.2.2.2.1 + y.2.2.2.2.2 ≤ 122 ∧ (∀ t, t < x.2.2.1.length → σ.1 1316 (y.2.2.1 + t) = x.2.2.1.getD t 0) ∧ (∀ t, t < x.2.2.2.length → σ.1 1339 (y.2.2.2.2.1 + t) = x.2.2.2.getD t 0)
theorem dNd.fr {σ τ : St} {d : Nat} {y : Md} {x : Nd} (h : dNd σ d y x) (g : agN σ τ) : dNd τ d y x := by
  unfold dNd
  rw [g.1 1316 (by omega), g.1 1333 (by omega), g.1 1334 (by omega), g.1 1335 (by omega), g.1 1336 (by omega), g.1 1337 (by omega), g.1 1338 (by omega), g.1 1339 (by omega)]
  exact h
section ADN
variable {F d e base : Nat} {ns : List Nd} {x : Nd} {y : Md} {σ : St}
theorem f177_114_e {q t : Nat} (hF : 5000 ≤ F) (hx : dNd σ d y x) (hO : okB x.2.2.2) (hd : d < 31) (hq : q < 31) (he : σ.1 1315 14 = Int32.ofNat e) (h1 : e + x.2.2.2.length ≤ 4300) (ht : σ.1 1331 q = Int32.ofNat t) : f177_114 F (Int32.ofNat d) (Int32.ofNat q) σ = oI (Int32.ofNat q) (endM σ q t x.2.2.2 e) := by
  have q1 := oN_n (show d < 2147483648 by omega)
  have q2 := oN_n (show q < 2147483648 by omega)
  have i1 : inB (Int32.ofNat d) 31 := oN_rg hd (by decide)
  have i2 : inB (Int32.ofNat q) 31 := oN_rg hq (by decide)
  obtain ⟨x1, x2, x3, x4, x5, x6, x7, x8, x9, x10, x11, x12⟩ := hx
  unfold f177_114
  obtain ⟨k, hk⟩ : ∃ k, F = (k + 1) + x.2.2.2.length := ⟨F - 1 - x.2.2.2.length, by omega⟩
  have a0 := f177_117_l (F := F) (y3 := Int32.ofNat q) hd x.2.2.2 (k + 1) 0 e σ x6 x5 x12 hO he h1 x10 (by omega)
  rw [← hk] at a0
  have a1 : f177_117 F F (Int32.ofNat d) (Int32.ofNat q) 0 σ = _ := a0
  rw [a1, f177_117.eq_2, if_pos i1, ltE]
  simp only [q1]
  rw [apP_o (by decide) (by decide), x6, if_neg (fun g => by have := (oN_lt (by omega) (by omega)).mp g; omega), if_pos i2, ltE]
  simp only [q2]
  rw [apP_o (by decide) (by decide), ht, if_pos i1, ltE, oN_ad, if_pos i2, ltE, x8]
  rfl
theorem f177_n (hF : 5000 ≤ F) (hx : dNd σ d y x) (hO : okB x.2.2.1 ∧ okB x.2.2.2) (hk1 : x.1 = y.1) (hk2 : x.2.1 = y.2.1 + base) (hd : d < 31) (h : nTr σ ns e) (hl : lvOk ns) (hk : x.1 ≤ 1000 ∧ x.2.1 ≤ 1000) (hm : ¬ mgb ns x) (h1 : e + x.2.2.1.length + x.2.2.2.length ≤ 4300) : f177 F (Int32.ofNat d) (Int32.ofNat base) σ = oI (Int32.ofNat ns.length) (endN σ ns.length x e) := by
  have hn : ns.length < 31 := by have := hl.1; omega
  have q1 := oN_n (show d < 2147483648 by omega)
  have q2 := oN_n (show ns.length < 2147483648 by omega)
  have i1 : inB (Int32.ofNat d) 31 := oN_rg hd (by decide)
  have i2 : inB (Int32.ofNat ns.length) 31 := oN_rg hn (by decide)
  have x0 := hx
  obtain ⟨x1, x2, x3, x4, x5, x6, x7, x8, x9, x10, x11, x12⟩ := hx
  unfold f177
  rw [if_pos i1, ltE, if_pos i1, ltE]
  simp only [q1]
  rw [x1, x2, oN_ad, Nat.add_comm base y.2.1, ← hk1, ← hk2, f175_n h hl hn hk hm, cIo, if_pos i2, ltE]
  simp only [q2]
  rw [plN_31n, if_pos (by rfl), ltE, plN_14, h.2.1, if_pos i2, ltE]
  have g1 : agN σ (uI (plN σ ns.length x.1 x.2.1 e) 1328 ns.length (Int32.ofNat e)) := (plN_ag agN.refl).uA (by decide)
  have f1 : (uI (plN σ ns.length x.1 x.2.1 e) 1328 ns.length (Int32.ofNat e)).1 1315 14 = Int32.ofNat e := by
    rw [u_ne (by decide), plN_f, if_neg (by decide)]
    exact h.2.1
  have f2 : (uI (plN σ ns.length x.1 x.2.1 e) 1328 ns.length (Int32.ofNat e)).1 1331 ns.length = 0 := by
    rw [u_ne (by decide), plN_31, if_pos (by rfl)]
  unfold endN
  generalize uI (plN σ ns.length x.1 x.2.1 e) 1328 ns.length (Int32.ofNat e) = σ1 at g1 f1 f2 ⊢
  have x13 := x0.fr g1
  obtain ⟨y1, y2, y3, y4, y5, y6, y7, y8, y9, y10, y11, y12⟩ := x13
  obtain ⟨k, hk9⟩ : ∃ k, F = (k + 1) + x.2.2.1.length := ⟨F - 1 - x.2.2.1.length, by omega⟩
  have a0 := f177_41_l (F := F) (y3 := Int32.ofNat ns.length) hd x.2.2.1 (k + 1) 0 e σ1 y4 y3 y11 hO.1 f1 (by omega) y9 (by omega)
  rw [← hk9] at a0
  have a1 : f177_41 F F (Int32.ofNat d) (Int32.ofNat ns.length) 0 σ1 = _ := a0
  rw [a1, f177_41.eq_2, if_pos i1, ltE]
  simp only [q1]
  have g2 : agN σ (apP σ1 e x.2.2.1) := apP_ag g1
  have f3 : (apP σ1 e x.2.2.1).1 1315 14 = Int32.ofNat (e + x.2.2.1.length) := apP_14
  have f4 : (apP σ1 e x.2.2.1).1 1331 ns.length = 0 := by
    rw [apP_o (by decide) (by decide)]
    exact f2
  generalize apP σ1 e x.2.2.1 = σ2 at g2 f3 f4 ⊢
  rw [g2.1 1336 (by omega), x4, if_neg (fun g => by have := (oN_lt (by omega) (by omega)).mp g; omega), if_pos i1, ltE, if_pos i2, ltE]
  simp only [q2]
  rw [x7]
  have g3 := g2.uA (a := 1329) (j := ns.length) (x := Int32.ofNat x.2.2.1.length) (by decide)
  rw [ltE, u_ne (by decide), f3, if_pos i2, ltE]
  have g4 := g3.uA (a := 1330) (j := ns.length) (x := Int32.ofNat (e + x.2.2.1.length)) (by decide)
  have f5 : (uI (uI σ2 1329 ns.length (Int32.ofNat x.2.2.1.length)) 1330 ns.length (Int32.ofNat (e + x.2.2.1.length))).1 1315 14 = Int32.ofNat (e + x.2.2.1.length) := by
    rw [u_ne (by decide), u_ne (by decide)]
    exact f3
  have f6 : (uI (uI σ2 1329 ns.length (Int32.ofNat x.2.2.1.length)) 1330 ns.length (Int32.ofNat (e + x.2.2.1.length))).1 1331 ns.length = Int32.ofNat 0 := by
    rw [u_ne (by decide), u_ne (by decide)]
    exact f4
  generalize uI (uI σ2 1329 ns.length (Int32.ofNat x.2.2.1.length)) 1330 ns.length (Int32.ofNat (e + x.2.2.1.length)) = σ3 at g4 f5 f6 ⊢
  rw [f177_114_e hF (x0.fr g4) hO.2 hd hn f5 h1 f6]
  unfold endM
  rw [Nat.zero_add]
theorem f177_m (hF : 5000 ≤ F) (hx : dNd σ d y x) (hO : okB x.2.2.1 ∧ okB x.2.2.2) (hk1 : x.1 = y.1) (hk2 : x.2.1 = y.2.1 + base) (hd : d < 31) (h : nTr σ ns e) (hl : lvOk ns) (hm : mgb ns x) (hne : (nd ns (ns.length - 1)).2.2.2 ≠ []) (hln : (nd ns (ns.length - 1)).2.2.2.length ≤ 100000) (h1 : e + x.2.2.2.length ≤ 4300) : f177 F (Int32.ofNat d) (Int32.ofNat base) σ = oI (Int32.ofNat (ns.length - 1)) (endM σ (ns.length - 1) (nd ns (ns.length - 1)).2.2.2.length x.2.2.2 e) := by
  have hn : ns.length < 31 := by have := hl.1; omega
  have h0 := hm.2.1
  have q1 := oN_n (show d < 2147483648 by omega)
  have q2 := oN_n (show ns.length - 1 < 2147483648 by omega)
  have i1 : inB (Int32.ofNat d) 31 := oN_rg hd (by decide)
  have i2 : inB (Int32.ofNat (ns.length - 1)) 31 := oN_rg (by omega) (by decide)
  have k := h.2.2 (ns.length - 1) (by omega)
  have hpos : 0 < (nd ns (ns.length - 1)).2.2.2.length := List.length_pos_iff.mpr hne
  have hnz : ¬ Int32.ofNat (nd ns (ns.length - 1)).2.2.2.length = 0 := fun g => by
    have := (oE0 (by omega)).mp g
    omega
  unfold f177
  rw [if_pos i1, ltE, if_pos i1, ltE]
  simp only [q1]
  rw [hx.1, hx.2.1, oN_ad, Nat.add_comm base y.2.1, ← hk1, ← hk2, f175_m h hn hm, cIo, if_pos i2, ltE]
  simp only [q2]
  rw [k.2.2.2.1, if_neg hnz, f177_114_e hF hx hO.2 hd (by omega) h.2.1 h1 k.2.2.2.1]
end ADN
