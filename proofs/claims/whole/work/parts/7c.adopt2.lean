/-! the reference's tree, adopted -/
def mTr (σ : St) (ns : List Nd) : Prop := σ.1 1315 3 = Int32.ofNat ns.length ∧ ∀ i, i < ns.length → mNd σ i (nd ns i) ∧ σ.1 1324 i = Int32.ofNat (siz ns i) ∧ σ.1 1325 i = par ns i
def okN (ns : List Nd) : Prop := ∀ i, i < ns.length → okB (nd ns i).2.2.1 ∧ okB (nd ns i).2.2.2
section ADR
variable {F e : Nat} {ns : List Nd}
theorem f178_126_e (hF : 500 ≤ F) (hl : lvOk ns) (hc : chOk ns) : ∀ (m k i : Nat) (σ : St), i + m = ns.length → kl σ ns → (∀ j, j < i → σ.1 1324 j = Int32.ofNat (siz ns j) ∧ σ.1 1325 j = par ns j) → ∃ τ, f178_126 F (k + m + 1) (Int32.ofNat i) σ = oV τ ∧ (∀ a, a ≠ 1315 → a ≠ 1324 → a ≠ 1325 → τ.1 a = σ.1 a) ∧ (∀ j, j ≠ 34 → τ.1 1315 j = σ.1 1315 j) ∧ τ.2 = σ.2 ∧ τ.1 1315 34 = 0 ∧ (∀ j, j < ns.length → τ.1 1324 j = Int32.ofNat (siz ns j) ∧ τ.1 1325 j = par ns j) := by
  have hl1 := hl.1
  intro m
  induction m with
  | zero =>
    intro k i σ him h ha
    rw [f178_126.eq_2, ltE, h.1, if_neg (fun g => by have := (oN_lt (by omega) (by omega)).mp g; omega), ltE]
    exact ⟨_, rfl, fun a h1 _ _ => u_ne h1, fun j hj => by rw [u_at, if_neg hj], rfl, u_eq, fun j hj => by rw [u_ne (by decide), u_ne (by decide)]; exact ha j (by omega)⟩
  | succ m ih =>
    intro k i σ him h ha
    have hi : i < ns.length := by omega
    have q1 := oN_n (show i < 2147483648 by omega)
    have i1 : inB (Int32.ofNat i) 31 := oN_rg (by omega) (by decide)
    have es : (if 1 < (nd ns i).1 then 0 else siz ns i) = siz ns i := by
      by_cases c : 1 < (nd ns i).1
      · rw [if_pos c, siz_0 hc c]
      · rw [if_neg c]
    have ep : parM ns (nd ns i).2.1 i = par ns i := (par_eq hc hi i (Nat.le_refl _) (fun j h1 h2 => by omega)).symm
    have h1 : kl (uI σ 1324 i (Int32.ofNat (siz ns i))) ns := ⟨by rw [u_ne (by decide)]; exact h.1, fun j hj => by rw [u_ne (by decide), u_ne (by decide)]; exact h.2 j hj⟩
    have h2 : kl (uI (uI σ 1324 i (Int32.ofNat (siz ns i))) 1325 i (par ns i)) ns := ⟨by rw [u_ne (by decide)]; exact h1.1, fun j hj => by rw [u_ne (by decide), u_ne (by decide)]; exact h1.2 j hj⟩
    obtain ⟨τ, e1, e2, e3, e4, e5, e6⟩ := ih k (i + 1) (uI (uI σ 1324 i (Int32.ofNat (siz ns i))) 1325 i (par ns i)) (by omega) h2 (fun j hj => by
      rw [u_ne (by decide), u_at, u_at]
      by_cases c : j = i
      · rw [if_pos c, if_pos c, c]
        exact ⟨rfl, rfl⟩
      · rw [if_neg c, if_neg c, u_ne (by decide)]
        exact ha j (by omega))
    refine ⟨τ, ?_, fun a g1 g2 g3 => (e2 a g1 g2 g3).trans (by rw [u_ne g3, u_ne g2]), fun j hj => (e3 j hj).trans (by rw [u_ne (by decide), u_ne (by decide)]), e4, e5, e6⟩
    rw [← e1, show k + (m + 1) + 1 = (k + m + 1) + 1 by omega, f178_126.eq_2, ltE, h.1, if_pos ((oN_lt (by omega) (by omega)).mpr hi), f179_e hF h hl hi, cIo, es, if_pos i1, ltE]
    simp only [q1]
    rw [f180_e hF h1 hl hi, cIo, ep, if_pos i1, ltE, oN_p1]
theorem f178_e {σ : St} (hF : 5000 ≤ F) (h : nTr σ ns e) (he : e ≤ 4300) (hl : lvOk ns) (hc : chOk ns) (hO : okN ns) : ∃ τ, f178 F σ = oV τ ∧ agA σ τ ∧ mTr τ ns ∧ τ.1 1315 34 = 0 := by
  have hl1 := hl.1
  unfold f178
  rw [ltE, h.1, ltE]
  have g0 : agA σ (uI σ 1315 3 (Int32.ofNat ns.length)) := agA.refl.uF (Or.inl rfl)
  have f0 : (uI σ 1315 3 (Int32.ofNat ns.length)).1 1315 3 = Int32.ofNat ns.length := u_eq
  generalize uI σ 1315 3 (Int32.ofNat ns.length) = σ0 at g0 f0 ⊢
  obtain ⟨k, hk⟩ : ∃ k, F = k + ns.length + 1 := ⟨F - ns.length - 1, by omega⟩
  have a0 := f178_10_e (F := F) hl1 ns.length k 0 σ0 (by omega) f0 (fun j hj => by omega)
  rw [← hk] at a0
  obtain ⟨σ1, a1, a2, a3, a4⟩ := a0
  have a1' : f178_10 F F 0 σ0 = f178_98 F F 0 σ1 := a1
  rw [a1']
  have g1 := g0.trans a2
  have f1 : σ1.1 1315 14 = Int32.ofNat e := by rw [g1.2.1 14 (by decide) (by decide)]; exact h.2.1
  obtain ⟨k2, hk2⟩ : ∃ k2, F = k2 + e + 1 := ⟨F - e - 1, by omega⟩
  have b0 := f178_98_e (F := F) he e k2 0 σ1 (by omega) f1 (fun j hj => by omega)
  rw [← hk2] at b0
  obtain ⟨σ2, b1, b2, b3, b4⟩ := b0
  have b1' : f178_98 F F 0 σ1 = f178_126 F F 0 σ2 := b1
  rw [b1']
  have hb2 : ∀ j, j < ns.length → nd ns j = nd ns j := fun _ _ => rfl
  have n1 : ∀ i, i < ns.length → mNd σ2 i (nd ns i) := fun i hi => by
    obtain ⟨k1, k2, k3, k4, na, ta, k5, k6, k7, k8, k9, k10, k11⟩ := h.2.2 i hi
    have w := a3 i hi
    rw [a2.1 1326 (by omega), a2.1 1327 (by omega), a2.1 1328 (by omega), a2.1 1329 (by omega), a2.1 1330 (by omega), a2.1 1331 (by omega), g0.1 1326 (by omega), g0.1 1327 (by omega), g0.1 1328 (by omega), g0.1 1329 (by omega), g0.1 1330 (by omega), g0.1 1331 (by omega)] at w
    have o := hO i hi
    have p32 : ∀ j, σ1.1 1332 j = σ.1 1332 j := fun j => by rw [g1.1 1332 (by omega)]
    refine ⟨?_, ?_, ?_, ?_, na, ta, ?_, ?_, by omega, by omega, fun j hj => ?_, fun j hj => ?_⟩
    · rw [b2 _ (by decide), w.1, k1]
    · rw [b2 _ (by decide), w.2.1, k2]
    · rw [b2 _ (by decide), w.2.2.2.1, k3]
    · rw [b2 _ (by decide), w.2.2.2.2.2, k4]
    · rw [b2 _ (by decide), w.2.2.1, k5]
    · rw [b2 _ (by decide), w.2.2.2.2.1, k6]
    · obtain ⟨v, v1, v2, v3⟩ := o.1 j hj
      rw [b4 _ (by omega), p32, k9 j hj, v3]
      exact nar_id v v2
    · obtain ⟨v, v1, v2, v3⟩ := o.2 j hj
      rw [b4 _ (by omega), p32, k10 j hj, v3]
      exact nar_id v v2
  have kl2 : kl σ2 ns := ⟨by rw [b2 _ (by decide), a4]; exact f0, fun i hi => ⟨(n1 i hi).1, (n1 i hi).2.1⟩⟩
  have g2 : agA σ σ2 := g1.trans ⟨fun a ha => b2 a (by omega), fun j _ _ => by rw [b2 _ (by decide)], b3⟩
  have c0 := f178_126_e (F := F) (by omega) hl hc ns.length k 0 σ2 (by omega) kl2 (fun j hj => by omega)
  rw [← hk] at c0
  obtain ⟨τ, c1, c2, c3, c4, c5, c6⟩ := c0
  refine ⟨τ, c1, g2.trans ⟨fun a ha => c2 a (by omega) (by omega) (by omega), fun j _ h2 => c3 j h2, c4⟩, ⟨by rw [c3 3 (by decide)]; exact kl2.1, fun i hi => ⟨(n1 i hi).fr (fun a h1 h2 => c2 a (by omega) (by omega) (by omega)), c6 i hi⟩⟩, c5⟩
end ADR
