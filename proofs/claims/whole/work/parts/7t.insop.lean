/-! THE CLASS INSERTS -/
section CIN
variable {F a lv : Nat} {ns : List Nd} {b : List Int32} {σ : St}
theorem agD.c {τ : St} (h : agD σ τ) (g : cTr σ ns) : cTr τ ns := g.fr (fun c h1 h2 => h.1 c (by omega))
theorem f24_56_e {y1 y2 z1 z2 : Int32} (hF : 5000 ≤ F) (hb : b.length ≤ 120) (hO : okB b) (hB : bufC σ b) (h : cTr σ ns) (hs : szOk ns) (hw : wf ns) (ht : tot ns + b.length ≤ 4096) (hlv : 1 ≤ lv) (hlv9 : lv ≤ 9) (hz : z1 + z2 = Int32.ofNat lv) (hp : plc ns a lv) (ha : ∀ τ : St, cTr τ ns → f26 F y1 y2 τ = oI (Int32.ofNat a) τ) :
    match sPc b (30 - ns.length) lv with
    | .inl c => ∃ τ, f24_56 F y1 y2 z1 z2 σ = oT c τ ∧ agD σ τ
    | .inr m => ∃ τ, f24_56 F y1 y2 z1 z2 σ = oI (Int32.ofNat (if jnb (jnO (insL ns a m) a) (a - 1) then a - 1 else a)) τ ∧ agL σ τ ∧ cTr τ (inO ns a m) ∧ bufC τ [] ∧ τ.1 1000 7 = 0 := by
  have hn := hs.1.1
  have m0 := f122_e (F := F) (R := 30 - ns.length) (lv := lv) hF hb hO hB (by omega) (by omega)
  have e30 : (30 : Int32) - Int32.ofNat ns.length = Int32.ofNat (30 - ns.length) := by
    rw [show (30 : Int32) = Int32.ofNat 30 from rfl, oN_sb hn]
  unfold f24_56
  rw [ltE, h.1.1, hz, e30]
  cases hq : sPc b (30 - ns.length) lv with
  | inl c =>
    rw [hq] at m0
    obtain ⟨τ, a1, a2⟩ := m0
    dsimp only
    rw [a1, cVt]
    exact ⟨τ, rfl, a2⟩
  | inr m =>
    have pm : pce m lv := sPc_wf hO hlv hlv9 hq
    have ml := sPc_len hO hq
    have mt := sPc_tot hO hq
    have ik := ins_k hw hp pm
    have ilen := ins_len (m := m) hp.2.1
    have hm0 := pm.1
    have hpa := hp.1
    have hpl := hp.2.1
    rw [hq] at m0
    obtain ⟨τ, p, ws, ts, a1, a2, a3, a4, a5, a6⟩ := m0
    dsimp only
    rw [a1, cVo]
    have h1 := a2.c h
    have d2 : drf τ m (flW m) (flT m) := by
      have d1 := a3.2.2.2
      rw [a4.1, a4.2.1] at d1
      exact d1
    have tm : tot m = (flW m).length + (flT m).length := rfl
    have tn : tot ns = (flW ns).length + (flT ns).length := rfl
    rw [f138_e h1 hs d2 (by omega) (by omega) (by omega), cIo, if_neg (show ¬ (1 : Int32) = 0 by decide), ha τ h1, cIo]
    have ew : (flW (insL ns a m)).length = (flW ns).length + (flW m).length := by
      have e : flW ns = flW (ns.take a) ++ flW (ns.drop a) := by rw [← flW_app, List.take_append_drop]
      unfold insL
      rw [flW_app, flW_app, List.length_append, List.length_append]
      have l := congrArg List.length e
      rw [List.length_append] at l
      omega
    have et : (flT (insL ns a m)).length = (flT ns).length + (flT m).length := by
      have e : flT ns = flT (ns.take a) ++ flT (ns.drop a) := by rw [← flT_app, List.take_append_drop]
      unfold insL
      rw [flT_app, flT_app, List.length_append, List.length_append]
      have l := congrArg List.length e
      rw [List.length_append] at l
      omega
    have hs2 : szOk (insL ns a m) := ⟨⟨by omega, fun i hi => by
      by_cases c0 : i = 0
      · rw [c0, ik.2.1]
        exact ⟨by decide, by decide⟩
      · have k := ik.1 i (by omega) hi
        exact ⟨by have := k.2.2.2.1; omega, by have := k.2.1; omega⟩⟩, by omega, by omega⟩
    obtain ⟨τ3, c1, c2, c3⟩ := f137_e (F := F) (a := a) (m := m) (by omega) h1 hs d2 hp.2.1 hs2 (by omega) (by omega)
    rw [c1, cVo, f91_r, cVo, ltE]
    have c4 : cTr (uI (uI τ3 1001 1 0) 1000 7 0) (insL ns a m) := c3.fr (fun a h1 h2 => by rw [u_ne (by omega), u_ne (by omega)])
    have ag4 : agL σ (uI (uI τ3 1001 1 0) 1000 7 0) := ((a2.l.trans c2.l).uI (by decide)).uI (by decide)
    have f7 : (uI (uI τ3 1001 1 0) 1000 7 0).1 1000 7 = 0 := u_eq
    have fb : bufC (uI (uI τ3 1001 1 0) 1000 7 0) [] := ⟨by rw [u_ne (by decide), u_eq]; rfl, fun j hj => absurd hj (Nat.not_lt_zero _)⟩
    generalize uI (uI τ3 1001 1 0) 1000 7 0 = σ4 at c4 ag4 f7 fb ⊢
    have nm1 := nm_of ik.1 ik.2.1
    obtain ⟨σ5, d1, d3, d4, d5⟩ := f140_e (F := F) (j := a) (by omega) c4 hs2 (by omega) nm1
    rw [d1, cIo, show Int32.ofNat a - 1 = Int32.ofNat (a - 1) by rw [show (1 : Int32) = Int32.ofNat 1 from rfl, oN_sb hpa]]
    have nm2 := nm_of (jn_ok (j := a) ik.1 ik.2.1) (jn_0 (j := a) ik.2.1)
    have jl : a - 1 < (jnO (insL ns a m) a).length := by
      unfold jnO
      by_cases hj : jnb (insL ns a m) a
      · rw [if_pos hj, jn_len hj.1]
        have := hj.1
        omega
      · rw [if_neg hj]
        omega
    obtain ⟨σ6, e1, e2, e3, e4⟩ := f140_e (F := F) (j := a - 1) (by omega) d4 d5 jl nm2
    rw [e1, cIo]
    have ac := d3.trans e2
    have res : cTr σ6 (inO ns a m) ∧ bufC σ6 [] ∧ σ6.1 1000 7 = 0 := ⟨e3, fb.fr (ac.1 1001 (by omega)) (ac.1 1002 (by omega)), by rw [ac.1 1000 (by omega)]; exact f7⟩
    by_cases hj : jnb (jnO (insL ns a m) a) (a - 1)
    · rw [decide_eq_true hj, if_neg (show ¬ b2i true = 0 by decide), if_pos hj]
      exact ⟨σ6, rfl, ag4.trans ac.l, res⟩
    · rw [decide_eq_false hj, if_pos b2i_f, if_neg hj]
      exact ⟨σ6, rfl, ag4.trans ac.l, res⟩
theorem f26_0 {p : Nat} (hF : 500 ≤ F) (h : cTr σ ns) (hs : szOk ns) (hp : p < ns.length) : f26 F (Int32.ofNat p) 0 σ = oI (Int32.ofNat (skn isAt ns (p + 1))) σ := by
  unfold f26
  rw [if_neg (by decide), if_pos (by rfl), f133_e hF h.1 hs.1 hp, cIo]
theorem f26_2 {p : Nat} : f26 F (Int32.ofNat p) 2 σ = oI (Int32.ofNat p) σ := by
  unfold f26
  rw [if_pos (by rfl)]
theorem f26_e {p : Nat} {w : Int32} (h : cTr σ ns) (hs : szOk ns) (hp : p < ns.length) (h0 : w ≠ 0) (h2 : w ≠ 2) : f26 F (Int32.ofNat p) w σ = oI (Int32.ofNat (p + siz ns p + 1)) σ := by
  have hn := hs.1.1
  unfold f26
  rw [if_neg h2, if_neg h0, if_pos (oN_rg (by omega) (by decide)), ltE, oN_n (by omega), (h.2.2.2.2 p hp).2, oN_ad, oN_p1]
end CIN
