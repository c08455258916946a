/-! THE REFERENCE ANSWERS A QUERY -/
section RFI
variable {F np nst npr nop q : Nat} {b : List Int32} {ns : List Nd} {T : Tb} {PT : Nat → Sm} {σ : St}
theorem agG.c {n : Nat} {x : Int32} : agG σ (uI σ 1352 n x) := ⟨⟨rfl, fun _ _ => rfl⟩, fun A _ h2 _ => u_ne h2, fun j _ => by rw [xI1, if_neg (by omega)]⟩
theorem agG.f {n : Nat} {x : Int32} (h : n = 0 ∨ n = 34 ∨ n = 35 ∨ n = 59) : agG σ (uI σ 1315 n x) := ⟨⟨rfl, fun _ _ => rfl⟩, fun A h1 _ _ => u_ne h1, fun j hj => by rw [xI1, if_neg (by omega)]⟩
theorem agG.r {σ τ : St} {n : Nat} (h : agG σ τ) (hn : ¬ (n = 0 ∨ n = 34 ∨ n = 35 ∨ n = 59)) : τ.1 1315 n = σ.1 1315 n := h.2.2 n hn
theorem f206_39_e {m : Sm} (hF : 15000 ≤ F) (hE : eX b ns PT T np nst npr nop) (hR : eR b ns σ T np nst npr nop) (hP : ∀ k, k < np → smOK ns (PT k) ∧ paD ns b PT T nst npr nop k = PT k) (h0 : σ.1 1315 0 = 0) (hm : PT 0 = m) (hnp : 0 < np) (hqn : q < ns.length) : ∃ τ, f206_39 F F (Int32.ofNat q) (Int32.ofNat (np - 1)) σ = oI (Int32.ofNat (cntB (m q) ns.length)) (uI τ 1315 1 0) ∧ agG σ τ ∧ τ.1 1315 0 = 0 ∧ τ.1 1315 34 = 1 ∧ τ.1 1315 35 = m q := by
  have hq := hE.1
  have hn := hq.2.1.1.1
  have hb := hE.2.2.1
  have fill : ∀ (k39 : Int32 → Int32 → St → Rs) (k : Nat), 0 < k → k < np → ∀ (d kk n : Nat) (σ' : St), n + d = ns.length → agG σ σ' → σ'.1 1315 0 = 0 → rslK ns PT np k σ' → (∀ i, i < n → σ'.1 1352 (30 * k + i) = PT k i) → ∃ τ, f206_45 F k39 (kk + d + 1) (Int32.ofNat q) (Int32.ofNat k) (Int32.ofNat n) σ' = k39 (Int32.ofNat q) (Int32.ofNat (k - 1)) τ ∧ agG σ τ ∧ τ.1 1315 0 = 0 ∧ rslK ns PT np (k - 1) τ := by
    intro k39 k hk hkn d
    induction d with
    | zero =>
      intro kk n σ' hnd ha hz hK hI
      have e : n = ns.length := by omega
      have ek : Int32.ofNat k + Int32.ofInt (-1) = Int32.ofNat (k - 1) := by
        obtain ⟨k', rfl⟩ : ∃ k', k = k' + 1 := ⟨k - 1, by omega⟩
        exact oN_m1
      refine ⟨σ', ?_, ha, hz, fun j h1 h2 i hi => ?_⟩
      · rw [f206_45.eq_2, ltE, (ha.e hR).2.1.1, if_neg (fun g => by have := (oN_lt (by omega) (by omega)).mp g; omega), ek]
      · by_cases c : j = k
        · rw [c]
          exact ⟨hI i (by omega), (hP k hkn).1 i hi⟩
        · exact hK j (by omega) h2 i hi
    | succ d ih =>
      intro kk n σ' hnd ha hz hK hI
      have hR' := ha.e hR
      obtain ⟨τ, t1, t2⟩ := f226_e (k := k) (n := n) hF hE hR' hK hkn (by omega)
      rw [show kk + (d + 1) + 1 = (kk + d + 1) + 1 by omega, f206_45.eq_2, ltE, hR'.2.1.1, if_pos ((oN_lt (by omega) (by omega)).mpr (by omega)), t1, cIo, idx30, if_pos (oN_rg (by omega) (by decide)), oN_n (by omega), ltE, oN_p1, (hP k hkn).2]
      refine ih kk (n + 1) _ (by omega) ((ha.tr t2.g).tr agG.c) ?_ (fun j h1 h2 i hi => ?_) (fun i hi => ?_)
      · rw [xI1, if_neg (by omega), t2.2.2 0 (by decide)]
        exact hz
      · rw [xI1, if_neg (by omega)]
        exact hK.fr t2 j h1 h2 i hi
      · rw [xI1]
        by_cases c : i = n
        · rw [if_pos (by rw [c]; exact ⟨rfl, rfl⟩), c]
        · rw [if_neg (by omega), t2.2.1 1352 (by decide) (by decide)]
          exact hI i (by omega)
  have out : ∀ (k kk : Nat) (σ' : St), k < np → agG σ σ' → σ'.1 1315 0 = 0 → rslK ns PT np k σ' → ∃ τ, f206_39 F (kk + k + 1) (Int32.ofNat q) (Int32.ofNat k) σ' = oI (Int32.ofNat (cntB (m q) ns.length)) (uI τ 1315 1 0) ∧ agG σ τ ∧ τ.1 1315 0 = 0 ∧ τ.1 1315 34 = 1 ∧ τ.1 1315 35 = m q := by
    intro k
    induction k with
    | zero =>
      intro kk σ' hk ha hz hK
      have a1 : agG σ (uI σ' 1315 34 1) := ha.tr (agG.f (by omega))
      have k1 : rslK ns PT np 0 (uI σ' 1315 34 1) := fun j h1 h2 i hi => by
        rw [xI1, if_neg (by omega)]
        exact hK j h1 h2 i hi
      obtain ⟨τ, t1, t2⟩ := f226_e (k := 0) (n := q) hF hE (a1.e hR) k1 hk hqn
      have e0 : (0 : Int32) = Int32.ofNat 0 := rfl
      refine ⟨uI τ 1315 35 (m q), ?_, (a1.tr t2.g).tr (agG.f (by omega)), ?_, ?_, u_eq⟩
      · rw [f206_39.eq_2, if_neg (fun g => by have := (oN_lt (p := 0) (by omega) (by omega)).mp g; omega), ltE, e0, t1, cIo, ltE, ltE, ltE, (hP 0 hk).2, hm, xI1, if_neg (by omega), u_eq, f234_e (by omega), cIo, cnt_in ((hm ▸ (hP 0 hk).1) q hqn) (by omega)]
      · rw [xI1, if_neg (by omega), t2.2.2 0 (by decide), xI1, if_neg (by omega)]
        exact hz
      · rw [xI1, if_neg (by omega), t2.2.2 34 (by decide), u_eq]
    | succ k ih =>
      intro kk σ' hk ha hz hK
      obtain ⟨τ, t1, t2, t3, t4⟩ := fill (f206_39 F (kk + k + 1)) (k + 1) (by omega) hk ns.length (F - ns.length - 1) 0 σ' (by omega) ha hz hK (fun i hi => by omega)
      rw [show F - ns.length - 1 + ns.length + 1 = F by omega] at t1
      rw [show kk + (k + 1) + 1 = (kk + k + 1) + 1 by omega, f206_39.eq_2, if_pos (show (0 : Int32) < Int32.ofNat (k + 1) from (oN_lt (p := 0) (by omega) (by omega)).mpr (by omega))]
      obtain ⟨υ, u1, u2⟩ := ih kk τ (by omega) t2 t3 t4
      exact ⟨υ, Eq.trans t1 u1, u2⟩
  have := out (np - 1) (F - np) σ (by omega) agG.rf h0 (fun j h1 h2 => by omega)
  rw [show F - np + (np - 1) + 1 = F by omega] at this
  exact this
theorem f206_e (hF : 15000 ≤ F) (hq : qOk ns b) (hB : bufM σ b) (ht : mTr σ ns) (hqn : q < ns.length) : (qry ns b = none → ∃ τ, f206 F (Int32.ofNat q) σ = oI 0 (uI τ 1315 0 2) ∧ agR0 σ τ) ∧ ∀ m, qry ns b = some m → ∃ ρ τ, f206 F (Int32.ofNat q) σ = oI (Int32.ofNat (cntB (m q) ns.length)) (uI τ 1315 1 0) ∧ agR0 σ ρ ∧ agG ρ τ ∧ τ.1 1315 0 = 0 ∧ τ.1 1315 34 = 1 ∧ τ.1 1315 35 = m q := by
  have hn := hq.2.1.1.1
  have v : f182 F (Int32.ofNat q) σ = oI 1 σ := by
    unfold f182
    rw [if_neg (oN_nn (by omega)), ltE, ht.1, if_pos ((oN_lt (by omega) (by omega)).mpr hqn)]
  have w := f207_e (F := F) (by omega) hq hB
  refine ⟨fun h => ?_, fun m h => ?_⟩
  · obtain ⟨τ, t1, t2⟩ := w.1 h
    refine ⟨τ, ?_, t2⟩
    unfold f206 f172
    rw [v, cIo, if_neg (by decide), t1, cIo, if_pos rfl, ltE, cIo]
  · obtain ⟨ρ, np, nst, npr, nop, T, PT, r1, r2, r3, r4, r5, r6⟩ := w.2 m h
    obtain ⟨m1, ⟨m2, m3, m4, m5, m6, m7⟩, m8, m9, m10⟩ := r3
    have hE : eX b ns PT T np nst npr nop := ⟨hq, m9, by omega, fun r hr => r4.2.2 r (Nat.zero_le _) hr⟩
    have tr : mTr ρ ns := ht.fr (fun a h1 h2 => r2.2.1 a (by omega) (by omega)) (r2.2.2 3 (by decide))
    have hR : eR b ns ρ T np nst npr nop := ⟨m1, tr, m8, m5, m6, m7⟩
    have g : agG ρ (uI ρ 1315 0 0) := agG.f (by omega)
    obtain ⟨τ, t1, t2, t3, t4, t5⟩ := f206_39_e (q := q) hF hE (g.e hR) (fun k hk => r4.2.1 k (Nat.zero_le _) hk) u_eq r5 r6 hqn
    refine ⟨ρ, τ, ?_, r2, g.tr t2, t3, t4, t5⟩
    unfold f206
    rw [v, cIo, if_neg (by decide), r1, cIo, if_neg (by decide), ltE, ltE, xI1, if_neg (by omega), m4, oN_sub1 r6]
    exact t1
end RFI
