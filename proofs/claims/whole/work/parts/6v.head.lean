/-! THE HEAD OF AN ELEMENT, both sides -/
def sHd (b : List Int32) (R lv p : Nat) (ns : List Nd) : Nat ⊕ (Nat × List Nd × Bool) := if isLet (b.getD (p + 1) 0) = true then (if 8 < lv then .inl 11 else if ns.length < R then sHe b R (lv + 1) (ns.length + 1) 200 (nmE b (p + 1)) (ns ++ [(1, lv, stre b (p + 1) (nmE b (p + 1) - (p + 1)), [])]) else .inl 11) else .inl 10
theorem oN_8 {x : Nat} (hx : x < 100000) : (8 : Int32) < Int32.ofNat x ↔ 8 < x := oN_lt (p := 8) (by decide) (by omega)
section MHD
variable {F R base th lv p : Nat} {b : List Int32} {pre : List Nd} {σ : St} {ns : List Nd} {ds : List Md} {cs : List Int32}
theorem f162_e (hF : 5000 ≤ F) (hb : b.length ≤ 120) (hO : okB b) (ht : th ≤ 30) (hR : R = 30 - th + pre.length) (hR3 : R ≤ 30) (h : mRd σ b p ds cs) (hr : rel b base pre ns ds cs) (hn : ns.length ≤ 30) (hc : cs.length ≤ p) (hlv : lv + base ≤ 1000) (hlet : isLet (b.getD (p + 1) 0) = true) :
    match sHd b R (lv + base) p ns with
    | .inl c => ∃ τ, f162 F (Int32.ofNat lv) (Int32.ofNat (lv + base)) (Int32.ofNat th) σ = oI 0 τ ∧ agM σ τ ∧ τ.1 1315 33 = wr c
    | .inr x => ∃ τ ds' cs', f162 F (Int32.ofNat lv) (Int32.ofNat (lv + base)) (Int32.ofNat th) σ = oI (if x.2.2 = true then 1 else 2) τ ∧ agM σ τ ∧ mRd τ b x.1 (ds ++ (1, lv, p + 1, nmE b (p + 1) - (p + 1), cs.length, 0) :: ds') cs' ∧ rel b base pre x.2.1 (ds ++ (1, lv, p + 1, nmE b (p + 1) - (p + 1), cs.length, 0) :: ds') cs' ∧ x.2.1.length ≤ 30 ∧ cs'.length ≤ x.1 ∧ p + 2 < x.1 ∧ x.1 ≤ b.length := by
  have hp1 := let_lt hlet
  have g0 := nmE_ge (b := b) (p := p + 1)
  have g2 := nmE_le (b := b) (p := p + 1) (by omega)
  have g3 : p + 1 < nmE b (p + 1) := by
    unfold nmE
    rw [if_pos hlet]
    exact skp_ge (f := isNam) (b := b) (p := p + 1 + 1)
  have hl := hr.len
  have h1 := h.mv (q := nmE b (p + 1))
  have ag1 : agM σ (uI σ 1315 32 (Int32.ofNat (nmE b (p + 1)))) := agM.refl.uF (Or.inr (Or.inr (Or.inl rfl)))
  unfold f162 sHd
  rw [if_pos hlet, ltE, h.2.1, oN_p1, f163_e (by omega) hb h.1 (by omega), cIo, ltE, h.2.2.2.1, ltE]
  generalize uI σ 1315 32 (Int32.ofNat (nmE b (p + 1))) = σ1 at h1 ag1 ⊢
  by_cases h8 : 8 < lv + base
  · rw [if_pos h8, if_pos ((oN_8 (by omega)).mpr h8), f154_e h1.2.2.1, cIo]
    exact ⟨_, rfl, ag1.uF (Or.inr (Or.inr (Or.inr rfl))), u_eq⟩
  · rw [if_neg h8, if_neg (fun hh => h8 ((oN_8 (by omega)).mp hh))]
    have e0 : f160 F 1 (Int32.ofNat lv) (Int32.ofNat th) σ1 = _ := f160_e (F := F) (k := 1) (lv := lv) (th := th) h1 (by omega) (by omega)
    rw [e0]
    by_cases hk : th + ds.length < 30
    · rw [if_pos hk, cIo, if_neg (show ¬ (1 : Int32) = 0 by decide), if_pos (show ns.length < R by omega)]
      have h2 := h1.mk (k := 1) (lv := lv)
      have ag2 : agM σ (mMk σ1 ds.length 1 lv cs.length) := mMk_ag ag1
      generalize mMk σ1 ds.length 1 lv cs.length = σ2 at h2 ag2 ⊢
      have q1 := oN_n (show ds.length < 2147483648 by omega)
      have i1 : inB (Int32.ofNat ds.length) 31 := oN_rg (by omega) (by decide)
      have h3 := h2.na (v := p + 1)
      have ag3 := ag2.uA (a := 1335) (j := ds.length) (x := Int32.ofNat (p + 1)) (by decide)
      have h4 := h3.nl (v := nmE b (p + 1) - (p + 1))
      have ag4 := ag3.uA (a := 1336) (j := ds.length) (x := Int32.ofNat (nmE b (p + 1) - (p + 1))) (by decide)
      rw [if_pos i1, ltE, if_pos i1, q1, oN_sb g0, ltE]
      generalize uI (uI σ2 1335 ds.length (Int32.ofNat (p + 1))) 1336 ds.length (Int32.ofNat (nmE b (p + 1) - (p + 1))) = σ4 at h4 ag4 ⊢
      dsimp only at h4
      have hr2 : rel b base pre (ns ++ [(1, lv + base, stre b (p + 1) (nmE b (p + 1) - (p + 1)), [])]) (ds ++ [(1, lv, p + 1, nmE b (p + 1) - (p + 1), cs.length, 0)]) cs := by
        have r1 := hr.snoc (es := []) (x := (1, lv, p + 1, nmE b (p + 1) - (p + 1), cs.length, 0)) ⟨by dsimp only; omega, by rw [List.append_nil]; exact Nat.le_refl _⟩
        rw [List.append_nil] at r1
        have e : toNd b cs base (1, lv, p + 1, nmE b (p + 1) - (p + 1), cs.length, 0) = (1, lv + base, stre b (p + 1) (nmE b (p + 1) - (p + 1)), []) := by
          unfold toNd
          dsimp only
          rw [stre_0]
        rw [e] at r1
        exact r1
      obtain ⟨k, hk2⟩ : ∃ k, F = k + 200 := ⟨F - 200, by omega⟩
      have m := f162_75_e (F := F) (base := base) (el := ds.length) (lv := lv) hF hb hO ht hR hR3 200 k (nmE b (p + 1)) σ4 _ _ cs h4 hr2 (by rw [List.length_append, List.length_cons, List.length_nil]; omega) (by rw [List.length_append, List.length_cons, List.length_nil]; omega) (by omega) g2 (by omega)
      rw [← hk2] at m
      rw [show lv + base + 1 = lv + 1 + base by omega, show ns.length + 1 = pre.length + (ds.length + 1) by omega]
      cases hq : sHe b R (lv + 1 + base) (pre.length + (ds.length + 1)) 200 (nmE b (p + 1)) (ns ++ [(1, lv + base, stre b (p + 1) (nmE b (p + 1) - (p + 1)), [])]) with
      | inl c =>
        rw [hq] at m
        obtain ⟨τ, m1, m2, m3⟩ := m
        exact ⟨τ, m1, ag4.trans m2, m3⟩
      | inr x =>
        rw [hq] at m
        obtain ⟨τ, ds', cs', m1, m2, m3, m4, m5, m6, m7, m8⟩ := m
        rw [List.append_assoc] at m3 m4
        exact ⟨τ, ds', cs', m1, ag4.trans m2, m3, m4, m5, m6, by omega, m8⟩
    · rw [if_neg hk, cIo, if_pos rfl, if_neg (show ¬ ns.length < R by omega)]
      exact ⟨_, rfl, ag1.uF (Or.inr (Or.inr (Or.inr rfl))), u_eq⟩
end MHD
section CHD
variable {F R lv p : Nat} {b : List Int32} {σ : St} {ns : List Nd} {ws ts : List Int32} {g : Int32 → St → Rs}
theorem f112_n {x1 : Int32} (hb : b.length ≤ 120) (h : cRd σ b p R ns ws ts) (hp : p ≤ 1000) (h60 : ¬ b.getD p 0 = 60) : f112 F g x1 σ = oT 10 σ := by
  unfold f112
  rw [f110_e hb h hp, if_neg h60, cVt]
theorem f112_h (hF : 5000 ≤ F) (hb : b.length ≤ 120) (hO : okB b) (hR : R ≤ 30) (h : cRd σ b p R ns ws ts) (hd : dOk p ns ws ts) (hn : ns.length ≤ 30) (hlv : lv ≤ 1000) (h60 : b.getD p 0 = 60) :
    match sHd b R lv p ns with
    | .inl c => ∃ τ, f112 F g (Int32.ofNat lv) σ = oT c τ ∧ agD σ τ
    | .inr x => ∃ τ ws', f112 F g (Int32.ofNat lv) σ = (if x.2.2 = true then f112_122 F g F (Int32.ofNat lv) (Int32.ofNat (p + 1)) (Int32.ofNat (nmE b (p + 1) - (p + 1))) 0 τ else oV τ) ∧ agD σ τ ∧ cRd τ b x.1 R x.2.1 ws' ts ∧ dOk x.1 x.2.1 ws' ts ∧ x.2.1.length ≤ 30 ∧ p + 2 < x.1 ∧ x.1 ≤ b.length ∧ isLet (b.getD (p + 1) 0) = true ∧ lv ≤ 8 := by
  have hp : p < b.length := nz_lt (by rw [h60]; decide)
  have h1 := h.mv (q := p + 1)
  have ag1 : agD σ (uI σ 1029 2 (Int32.ofNat (p + 1))) := agD.refl.uI (by decide)
  have g0 := nmE_ge (b := b) (p := p + 1)
  have g2 := nmE_le (b := b) (p := p + 1) (by omega)
  have hwl := hd.2.2.1
  have htl := hd.2.2.2
  unfold f112 sHd
  rw [f110_e hb h (by omega), if_pos h60, cVo, ltE, h1.2.1]
  generalize uI σ 1029 2 (Int32.ofNat (p + 1)) = σ1 at h1 ag1 ⊢
  rw [f113_e (by omega) hb h1 (by omega)]
  by_cases hlet : isLet (b.getD (p + 1) 0) = true
  · have g3 : p + 1 < nmE b (p + 1) := by
      unfold nmE
      rw [if_pos hlet]
      exact skp_ge (f := isNam) (b := b) (p := p + 1 + 1)
    have h2 := h1.mv (q := nmE b (p + 1))
    have ag2 := ag1.uI (a := 1029) (j := 2) (x := Int32.ofNat (nmE b (p + 1))) (by decide)
    rw [if_pos hlet, if_neg (show ¬ nmE b (p + 1) = p + 1 by omega), cIo]
    generalize uI σ1 1029 2 (Int32.ofNat (nmE b (p + 1))) = σ2 at h2 ag2 ⊢
    by_cases h8 : 8 < lv
    · rw [if_pos h8, if_pos ((oN_8 (by omega)).mpr h8)]
      exact ⟨_, rfl, ag2⟩
    · rw [if_neg h8, if_neg (fun hh => h8 ((oN_8 (by omega)).mp hh)), f111_e h2 (by omega) (by omega)]
      by_cases hk : ns.length < R
      · have w1 : (stre b (p + 1) (nmE b (p + 1) - (p + 1))).length = nmE b (p + 1) - (p + 1) := stre_len (by omega)
        have h3 := h2.putW (q := p + 1) (n := nmE b (p + 1) - (p + 1)) (by omega)
        have ag3 : agD σ (rPut σ2 1027 1001 ws.length (p + 1) (nmE b (p + 1) - (p + 1)) ws.length) := ag2.rPut (Or.inr rfl)
        rw [if_pos hk, if_pos hk, cVo, ltE, h2.2.2.2.2.1.1, f95_r (r := 1027) (r2 := 1001) (l := ws) (l2 := b) (Or.inr (Or.inr (Or.inr (Or.inr rfl)))) (Or.inl rfl) h2.2.2.2.2.1 (rowL_buf.mpr h2.1) (by rw [show capR 1027 = 120 by decide]; omega) (Nat.le_refl _) (by omega) (by rw [show capR 1001 = 120 by decide]; omega), cVo]
        generalize rPut σ2 1027 1001 ws.length (p + 1) (nmE b (p + 1) - (p + 1)) ws.length = σ3 at h3 ag3 ⊢
        generalize hnm : stre b (p + 1) (nmE b (p + 1) - (p + 1)) = nm at w1 ⊢
        have hnm2 : (b.drop (p + 1)).take (nmE b (p + 1) - (p + 1)) = nm := hnm
        rw [hnm2] at h3
        have hw2 : ws ++ nm = flW (ns ++ [(1, lv, nm, [])]) := by
          rw [flW_snoc, ← hd.1]
          simp [wOf]
        have k2 : f124 F 1016 1 (Int32.ofNat lv) (Int32.ofNat nm.length) 0 σ3 = _ := f124_c (F := F) (x := (1, lv, nm, [])) h3 (by omega)
        rw [w1] at k2
        have h4 := h3.add (x := (1, lv, nm, [])) hw2
        have ag4 := ag3.dAdd (n := ns.length) (k := 1) (lv := lv) (nl := nm.length) (ol := 0) (tl := ts.length) (wl := (ws ++ nm).length)
        have hd4 : dOk (nmE b (p + 1)) (ns ++ [(1, lv, nm, [])]) (ws ++ nm) ts := ⟨hw2, by rw [flT_snoc, ← hd.2.1]; simp [tOf], by rw [List.length_append]; omega, by omega⟩
        dsimp only [List.length_nil] at k2 h4
        rw [w1] at h4 ag4
        rw [k2, cVo]
        generalize dAdd σ3 ns.length 1 lv (nmE b (p + 1) - (p + 1)) 0 ts.length (ws ++ nm).length = σ4 at h4 ag4 ⊢
        unfold f114
        rw [ltE, h4.2.2.2.1, oN_p1]
        have hlen : (ns ++ [((1, lv, nm, []) : Nd)]).length = ns.length + 1 := by rw [List.length_append, List.length_cons, List.length_nil]
        obtain ⟨k, hk2⟩ : ∃ k, F = k + 200 := ⟨F - 200, by omega⟩
        have m := f114_10_e (F := F) (lv := lv + 1) (fa := ns.length + 1) hF hb hO hR (by omega) 200 k (nmE b (p + 1)) 0 σ4 (ns ++ [(1, lv, nm, [])]) (ws ++ nm) h4 hd4 (by rw [hlen]; omega) (by rw [hlen]; omega) g2 (by omega) (by omega)
        rw [← hk2] at m
        rw [hlen]
        have z0 : (0 : Int32) = Int32.ofNat 0 := rfl
        rw [← z0] at m
        unfold sHe
        cases hq : sAs b R (lv + 1) (ns.length + 1) 200 (nmE b (p + 1)) (ns ++ [(1, lv, nm, [])]) with
        | inl c =>
          rw [hq] at m
          obtain ⟨τ, m1, m2⟩ := m
          dsimp only
          rw [m1, cVt]
          exact ⟨τ, rfl, ag4.trans m2⟩
        | inr x =>
          rw [hq] at m
          obtain ⟨τ, m1, m2, ⟨ws', m3, m4⟩, m5, m6, m7⟩ := m
          dsimp only
          rw [m1, cVo, ltE, m3.2.1, f92_e m3.1 hb (by omega), cIo]
          have ag5 := ag4.trans m2
          unfold hdE
          by_cases h47 : b.getD x.1 0 = 47
          · have hl2 : x.1 < b.length := nz_lt (by rw [h47]; decide)
            have h5 := m3.mv (q := x.1 + 1)
            have ag6 := ag5.uI (a := 1029) (j := 2) (x := Int32.ofNat (x.1 + 1)) (by decide)
            rw [if_pos h47, if_neg (show ¬ b.getD x.1 0 = 62 by rw [h47]; decide), if_pos h47, ltE, m3.2.1, oN_p1, ltE, f110_e hb h5 (by omega)]
            by_cases h62 : b.getD (x.1 + 1) 0 = 62
            · have hl3 : x.1 + 1 < b.length := nz_lt (by rw [h62]; decide)
              rw [if_pos h62, if_pos h62, cVo]
              exact ⟨_, ws', rfl, ag6.uI (by decide), h5.mv (q := x.1 + 2), ⟨m4.1, m4.2.1, by have := m4.2.2.1; dsimp only; omega, by have := m4.2.2.2; dsimp only; omega⟩, m5, by dsimp only; omega, hl3, hlet, by omega⟩
            · rw [if_neg h62, if_neg h62, cVt]
              exact ⟨_, rfl, ag6⟩
          · rw [if_neg h47, if_neg h47, f110_e hb m3 (by omega)]
            by_cases h62 : b.getD x.1 0 = 62
            · have hl2 : x.1 < b.length := nz_lt (by rw [h62]; decide)
              rw [if_pos h62, if_pos h62, cVo]
              exact ⟨_, ws', rfl, ag5.uI (by decide), m3.mv (q := x.1 + 1), ⟨m4.1, m4.2.1, by have := m4.2.2.1; dsimp only; omega, by have := m4.2.2.2; dsimp only; omega⟩, m5, by dsimp only; omega, hl2, hlet, by omega⟩
            · rw [if_neg h62, if_neg h62, cVt]
              exact ⟨_, rfl, ag5⟩
      · rw [if_neg hk, if_neg hk, cVt]
        exact ⟨_, rfl, ag2⟩
  · rw [if_neg hlet]
    have e : nmE b (p + 1) = p + 1 := by
      unfold nmE
      rw [if_neg hlet]
    rw [if_pos e, cIt]
    exact ⟨_, rfl, ag1⟩
end CHD
