/-! THE REFERENCE'S TWO-PLACE OPS -/
section RTW
variable {F np nst npr nop : Nat} {b : List Int32} {ns : List Nd} {T : Tb} {PT : Nat → Sm} {σ : St}
theorem agH.pop {x : Int32} : agH σ (uI σ 1315 59 x) := ⟨⟨rfl, fun _ _ => rfl⟩, fun A h1 _ => u_ne h1, fun j hj => by rw [xI1, if_neg (by omega)]⟩
theorem stS.pop {s : List Vl} (h : stV ns b T nop σ s) : stS ns b T nop (uI σ 1315 59 (Int32.ofNat s.length)) s := ⟨u_eq, h.fr s (fun i _ => ⟨by rw [xI1, if_neg (by omega)], rfl⟩)⟩
theorem stB.ps {v : Vl} {s : List Vl} {K : Nat} (h : stB ns s K) (g : bnd ns v 1) : stB ns (v :: s) (K + 1) := ⟨1, ⟨by omega, by omega⟩, g, by rw [Nat.add_sub_cancel]; exact h⟩
theorem f239_e {v z : Vl} {s : List Vl} {kd K : Nat} (hF : 15000 ≤ F) (hq : qOk ns b) (hR : eR b ns σ T np nst npr nop) (hn : nop ≤ 121) (h : stS ns b T nop σ (z :: v :: s)) (hl : s.length ≤ 120) (hk : 7 ≤ kd ∧ kd ≤ 12) (hB : stB ns (z :: v :: s) K) (hK : K ≤ 150) : ∃ τ, f239 F (Int32.ofNat kd) σ = oV τ ∧ agH σ τ ∧ stS ns b T nop τ (opB ns kd v z :: s) ∧ stB ns (opB ns kd v z :: s) K := by
  obtain ⟨h1, h2, h3, h4⟩ := h
  obtain ⟨m, hm, bz, n, hn2, bv, bs⟩ := hB
  have h1 : σ.1 1315 59 = Int32.ofNat (s.length + 2) := h1
  have h2 : vM ns b T nop (σ.1 1359 (s.length + 1)) (σ.2.1 1360 (s.length + 1)) z := h2
  have i1 : inB (Int32.ofNat s.length) 130 := oN_rg (by omega) (by decide)
  have i2 : inB (Int32.ofNat (s.length + 1)) 130 := oN_rg (by omega) (by decide)
  have n1 := oN_n (show s.length < 2147483648 by omega)
  have n2 := oN_n (show s.length + 1 < 2147483648 by omega)
  have e2 : Int32.ofNat (s.length + 2) - 2 = Int32.ofNat s.length := oN_sb (p := s.length + 2) (q := 2) (by omega)
  have st := stS.pop h4
  have hR2 : eR b ns (uI σ 1315 59 (Int32.ofNat s.length)) T np nst npr nop := agH.pop.e hR
  unfold f239
  simp only [ltE, h1, e2, u_eq, if_pos i1, n1, oN_p1, if_pos i2, n2]
  have r1 : (uI σ 1315 59 (Int32.ofNat s.length)).1 1359 = σ.1 1359 := u_ne (by decide)
  have r2 : (uI σ 1315 59 (Int32.ofNat s.length)).2.1 = σ.2.1 := rfl
  rw [r1, r2]
  have k7 : Int32.ofNat kd = 7 ↔ kd = 7 := oN_eq (q := 7) (by omega) (by decide)
  have k8 : Int32.ofNat kd = 8 ↔ kd = 8 := oN_eq (q := 8) (by omega) (by decide)
  generalize hty : σ.1 1359 s.length = ty at h3
  generalize hx : σ.2.1 1360 s.length = x at h3
  generalize huy : σ.1 1359 (s.length + 1) = uy at h2
  generalize hy : σ.2.1 1360 (s.length + 1) = y at h2
  have push : ∀ {tz : Int32} {xz : Int64} {w : Vl}, vM ns b T nop tz xz w → ∃ τ, (cV (f236 F tz xz (uI σ 1315 59 (Int32.ofNat s.length))) fun σ => oV σ) = oV τ ∧ agH σ τ ∧ stS ns b T nop τ (w :: s) := by
    intro tz xz w hw
    obtain ⟨τ, t1, t2, t3⟩ := f236_e (F := F) st (by omega) hw
    exact ⟨τ, by rw [t1, cVo], agH.pop.tr t2, t3⟩
  by_cases c : kd = 7 ∨ kd = 8
  · have e : opB ns kd v z = vN (addO (decide (kd = 8)) (nmV ns v) (nmV ns z)) := by
      unfold opB
      rcases c with rfl | rfl <;> rfl
    rw [e]
    have bd := bnd_a (s := decide (kd = 8)) bv bz (by omega)
    have key : ∃ τ, f239_68 F (Int32.ofNat kd) ty x uy y (uI σ 1315 59 (Int32.ofNat s.length)) = oV τ ∧ agH σ τ ∧ stS ns b T nop τ (vN (addO (decide (kd = 8)) (nmV ns v) (nmV ns z)) :: s) := by
      unfold f239_68
      rw [f240_e hF hq hR2 hn h3 bv.1, cJo, f240_e hF hq hR2 hn h2 bz.1, cJo]
      have nv : nOk (nmV ns v) := fun u hu => by have := bv.2 u hu; omega
      have nz : nOk (nmV ns z) := fun u hu => by have := bz.2 u hu; omega
      cases hv : nmV ns v with
      | none =>
        rw [if_pos (show lg_cmp (eM none) (-1000000000000000) = 0 from (lg_eq _ _).mpr rfl)]
        exact push (Or.inl ⟨rfl, rfl, rfl⟩)
      | some p =>
        rw [if_neg (fun q => by have := (eM_n (hv ▸ nv)).mp ((lg_eq _ _).mp q); cases this)]
        cases hz : nmV ns z with
        | none =>
          rw [if_pos (show lg_cmp (eM none) (-1000000000000000) = 0 from (lg_eq _ _).mpr rfl)]
          exact push (Or.inl ⟨rfl, rfl, rfl⟩)
        | some q =>
          rw [if_neg (fun g => by have := (eM_n (hz ▸ nz)).mp ((lg_eq _ _).mp g); cases this)]
          rcases c with rfl | rfl
          · rw [if_pos (k7.mpr rfl)]
            refine push (Or.inl ⟨rfl, rfl, ?_⟩)
            show Int64.ofInt p + Int64.ofInt q = Int64.ofInt (p + q)
            rw [Int64.ofInt_add]
          · rw [if_neg (by decide)]
            refine push (Or.inl ⟨rfl, rfl, ?_⟩)
            show Int64.ofInt p - Int64.ofInt q = Int64.ofInt (p - q)
            rw [Int64.ofInt_sub]
    have fin : stB ns (vN (addO (decide (kd = 8)) (nmV ns v) (nmV ns z)) :: s) K := ⟨n + m, ⟨by omega, by omega⟩, bd, by rw [show K - (n + m) = K - m - n by omega]; exact bs⟩
    obtain ⟨τ, t1, t2, t3⟩ := key
    rcases c with c | c
    · rw [if_pos (k7.mpr c)]
      exact ⟨τ, t1, t2, t3, fin⟩
    · rw [if_neg (fun q => by have := k7.mp q; omega), if_pos (k8.mpr c)]
      exact ⟨τ, t1, t2, t3, fin⟩
  · have e : opB ns kd v z = vB (cmpS ns (kd - 9) v z) := by
      unfold opB
      rw [if_neg (by omega), if_neg (by omega)]
    rw [e, if_neg (fun q => c (Or.inl (k7.mp q))), if_neg (fun q => c (Or.inr (k8.mp q)))]
    have k := f243_e (o := kd - 9) (by omega) hF hq hR2 hn h3 bv.1 h2 bz.1
    rw [show 9 + (kd - 9) = kd by omega] at k
    rw [k, cIo, ifb]
    have fin : stB ns (vB (cmpS ns (kd - 9) v z) :: s) K := ⟨1, ⟨by omega, by omega⟩, bnd_b, stB.up s _ _ bs (by omega)⟩
    cases cmpS ns (kd - 9) v z with
    | true =>
      obtain ⟨τ, t1, t2, t3⟩ := push (tz := 2) (xz := 1) (w := vB true) (Or.inr (Or.inr (Or.inl ⟨rfl, rfl, rfl⟩)))
      rw [if_pos rfl]
      exact ⟨τ, t1, t2, t3, ⟨1, ⟨by omega, by omega⟩, bnd_b, stB.up s _ _ bs (by omega)⟩⟩
    | false =>
      obtain ⟨τ, t1, t2, t3⟩ := push (tz := 2) (xz := 0) (w := vB false) (Or.inr (Or.inr (Or.inl ⟨rfl, rfl, rfl⟩)))
      rw [if_neg (by decide)]
      exact ⟨τ, t1, t2, t3, ⟨1, ⟨by omega, by omega⟩, bnd_b, stB.up s _ _ bs (by omega)⟩⟩
end RTW
