/-! THE CLASS TAKES NODES OUT, joins texts, gives a name -/
section TKO
variable {F p n : Nat} {ns : List Nd} {σ : St}
theorem szOk.del (hs : szOk ns) (hp : p + n ≤ ns.length) : szOk (delL ns p n) := by
  have hlen := del_len hp
  have e1 : ∀ i, i < (delL ns p n).length → ∃ k, k < ns.length ∧ nd (delL ns p n) i = nd ns k := fun i hi => by
    rw [hlen] at hi
    rw [nd_del (by omega)]
    by_cases c : i < p
    · rw [if_pos c]
      exact ⟨i, by omega, rfl⟩
    · rw [if_neg c]
      exact ⟨i + n, by omega, rfl⟩
  refine ⟨⟨by rw [hlen]; have := hs.1.1; omega, fun i hi => ?_⟩, ?_, ?_⟩
  · obtain ⟨k, h1, h2⟩ := e1 i hi
    rw [h2]
    exact hs.1.2 k h1
  · have h3 := hs.2.1
    have e : flT ns = flT (ns.take p) ++ flT (ns.drop p) := by rw [← flT_app, List.take_append_drop]
    have e2 : flT (ns.drop p) = flT ((ns.drop p).take n) ++ flT (ns.drop (p + n)) := by rw [← flT_app, ← List.drop_drop, List.take_append_drop]
    rw [e, e2, List.length_append, List.length_append] at h3
    unfold delL
    rw [flT_app, List.length_append]
    omega
  · have h3 := hs.2.2
    have e : flW ns = flW (ns.take p) ++ flW (ns.drop p) := by rw [← flW_app, List.take_append_drop]
    have e2 : flW (ns.drop p) = flW ((ns.drop p).take n) ++ flW (ns.drop (p + n)) := by rw [← flW_app, ← List.drop_drop, List.take_append_drop]
    rw [e, e2, List.length_append, List.length_append] at h3
    unfold delL
    rw [flW_app, List.length_append]
    omega
theorem f141_e (hF : 500 ≤ F) (h : cTr σ ns) (hs : szOk ns) (hp : p + n ≤ ns.length) : ∃ τ, f141 F 1003 (Int32.ofNat p) (Int32.ofNat n) σ = oV τ ∧ agC σ τ ∧ cTr τ (delL ns p n) := by
  have c2 : capR 1012 = 4096 := by decide
  have c4 : capR 1014 = 4096 := by decide
  have hs2 := hs.del hp
  have hlen := del_len hp
  have hn := hs.1.1
  have sw := hs.2.2
  have st := hs.2.1
  have wa := wF_le (ns := ns) (show p ≤ p + n by omega)
  have ta := tF_le (ns := ns) (show p ≤ p + n by omega)
  have wb := wF_le (ns := ns) hp
  have tb := tF_le (ns := ns) hp
  rw [wF_all] at wb
  rw [tF_all] at tb
  have ew : flW (delL ns p n) = (flW ns).take (wF ns p) ++ (flW ns).drop (wF ns p + (wF ns (p + n) - wF ns p)) := by
    rw [show wF ns p + (wF ns (p + n) - wF ns p) = wF ns (p + n) by omega, flW_tk.1, flW_tk.2]
    unfold delL
    rw [flW_app]
  have et : flT (delL ns p n) = (flT ns).take (tF ns p) ++ (flT ns).drop (tF ns p + (tF ns (p + n) - tF ns p)) := by
    rw [show tF ns p + (tF ns (p + n) - tF ns p) = tF ns (p + n) by omega, flT_tk.1, flT_tk.2]
    unfold delL
    rw [flT_app]
  have i1 : inB (Int32.ofNat p) 31 := oN_rg (by omega) (by decide)
  have i2 : inB (Int32.ofNat (p + n)) 31 := oN_rg (by omega) (by decide)
  have q1 := oN_n (show p < 2147483648 by omega)
  have q2 := oN_n (show p + n < 2147483648 by omega)
  unfold f141
  rw [if_neg (oN_nn (by omega)), if_neg (oN_nn (by omega)), ltE, h.1.1, oN_ad, if_neg (fun g => by have := (oN_lt (by omega) (by omega)).mp g; omega), if_pos i1, ltE, if_pos i2, ltE, if_pos i1, ltE]
  simp only [q1, q2]
  rw [rfT.2.2.2.2.2.2.1, (h.2.2.2.1 p (by omega)).1, (h.2.2.2.1 (p + n) hp).1, oN_sb ta, rfT.2.2.2.2.2.2.2.2.1, rfT.2.2.2.2.2.2.2.2.2, f98_r (r := 1012) (l := flT ns) (Or.inr (Or.inl rfl)) h.2.2.1 (by rw [c2]; omega) (by omega), cVo]
  have r1 := rCut_row (r := 1012) (p := tF ns p) (n := tF ns (p + n) - tF ns p) h.2.2.1 (by omega)
  rw [← et] at r1
  have a1 : agC σ (rCut σ 1012 (tF ns p) (tF ns (p + n) - tF ns p) (flT ns).length) := agC.refl.rCut (Or.inl rfl)
  have o1 : ∀ c, c ≠ 1012 → c ≠ 1013 → (rCut σ 1012 (tF ns p) (tF ns (p + n) - tF ns p) (flT ns).length).1 c = σ.1 c := fun c h1 h2 => rCut_oth h1 h2
  generalize rCut σ 1012 (tF ns p) (tF ns (p + n) - tF ns p) (flT ns).length = σ1 at r1 a1 o1 ⊢
  have w14 : rowL σ1 1014 (flW ns) := rowL_fr (o1 _ (by decide) (by decide)) (o1 _ (by decide) (by decide)) h.2.1
  rw [if_pos i1, ltE, if_pos i2, ltE, if_pos i1, ltE, rfT.2.2.2.2.2.2.2.1, o1 1011 (by decide) (by decide), (h.2.2.2.1 p (by omega)).2, (h.2.2.2.1 (p + n) hp).2, oN_sb wa, f98_r (r := 1014) (l := flW ns) (Or.inr (Or.inr (Or.inl rfl))) w14 (by rw [c4]; omega) (by omega), cVo]
  have r2 := rCut_row (r := 1014) (p := wF ns p) (n := wF ns (p + n) - wF ns p) w14 (by omega)
  rw [← ew] at r2
  have a2 : agC σ (rCut σ1 1014 (wF ns p) (wF ns (p + n) - wF ns p) (flW ns).length) := a1.rCut (Or.inr rfl)
  have o2 : ∀ c, c ≠ 1012 → c ≠ 1013 → c ≠ 1014 → c ≠ 1015 → (rCut σ1 1014 (wF ns p) (wF ns (p + n) - wF ns p) (flW ns).length).1 c = σ.1 c := fun c h1 h2 h3 h4 => (rCut_oth h3 h4).trans (o1 c h1 h2)
  have r1b : rowL (rCut σ1 1014 (wF ns p) (wF ns (p + n) - wF ns p) (flW ns).length) 1012 (flT (delL ns p n)) := rowL_fr (rCut_oth (by decide) (by decide)) (rCut_oth (by decide) (by decide)) r1
  generalize rCut σ1 1014 (wF ns p) (wF ns (p + n) - wF ns p) (flW ns).length = σ2 at r2 a2 o2 r1b ⊢
  have n2 : ∀ i, i < ns.length → nD σ2 1003 i (nd ns i) := fun i hi => by
    unfold nD
    rw [o2 _ (by decide) (by decide) (by decide) (by decide), o2 _ (by decide) (by decide) (by decide) (by decide), o2 _ (by decide) (by decide) (by decide) (by decide), o2 _ (by decide) (by decide) (by decide) (by decide)]
    exact h.1.2 i hi
  rw [ltE, o2 1003 (by decide) (by decide) (by decide) (by decide), h.1.1, oN_sb (by omega), oN_sb (by omega), f139_e (Or.inl rfl) (by omega) (by omega), cVo]
  have o3 : ∀ c, c < 1004 ∨ 1007 < c → (cpN σ2 1003 (p + n) p (ns.length - p - n)).1 c = σ2.1 c := fun c hc => cpN_oth hc
  have n5 : ∀ i, i < ns.length - n → nD (cpN σ2 1003 (p + n) p (ns.length - p - n)) 1003 i (nd (delL ns p n) i) := fun i hi => by
    rw [nd_del (by omega)]
    by_cases c1 : i < p
    · rw [if_pos c1]
      exact cpN_out (by omega) (n2 i (by omega))
    · rw [if_neg c1]
      exact cpN_in (by omega) (by omega) (by rw [show p + n + (i - p) = i + n by omega]; exact n2 _ (by omega))
  have a3 : agC σ (cpN σ2 1003 (p + n) p (ns.length - p - n)) := a2.cpN
  generalize cpN σ2 1003 (p + n) p (ns.length - p - n) = σ3 at o3 n5 a3 ⊢
  rw [ltE, o3 1003 (by decide), o2 1003 (by decide) (by decide) (by decide) (by decide), h.1.1, oN_sb (by omega), ltE]
  have a5 := a3.uI (a := 1003) (j := 10) (x := Int32.ofNat (ns.length - n)) (by decide)
  have b5 : bTr (uI σ3 1003 10 (Int32.ofNat (ns.length - n))) (delL ns p n) := by
    refine ⟨by rw [u_eq, hlen], fun i hi => ?_⟩
    rw [hlen] at hi
    have k := n5 i hi
    unfold nD at k
    rw [u_ne (by decide), u_ne (by decide), u_ne (by decide), u_ne (by decide)]
    exact k
  have r5w : rowL (uI σ3 1003 10 (Int32.ofNat (ns.length - n))) 1014 (flW (delL ns p n)) := rowL_fr (by rw [u_ne (by decide), o3 1014 (by decide)]) (by rw [u_ne (by decide), o3 1015 (by decide)]) r2
  have r5t : rowL (uI σ3 1003 10 (Int32.ofNat (ns.length - n))) 1012 (flT (delL ns p n)) := rowL_fr (by rw [u_ne (by decide), o3 1012 (by decide)]) (by rw [u_ne (by decide), o3 1013 (by decide)]) r1b
  generalize uI σ3 1003 10 (Int32.ofNat (ns.length - n)) = σ5 at a5 b5 r5w r5t ⊢
  obtain ⟨τ, e1, a6, m6⟩ := f125_e (F := F) hF hs2 b5
  rw [e1, cVo]
  exact ⟨τ, rfl, a5.trans a6.c, a6.b b5, rowL_fr (a6.1 1014 (by omega)) (a6.1 1015 (by omega)) r5w, rowL_fr (a6.1 1012 (by omega)) (a6.1 1013 (by omega)) r5t, m6⟩
end TKO
/-- two texts side by side -/
abbrev jnb (ns : List Nd) (p : Nat) : Prop := p + 1 < ns.length ∧ (nd ns p).1 = 3 ∧ (nd ns (p + 1)).1 = 3 ∧ (nd ns p).2.1 = (nd ns (p + 1)).2.1
def jnL (ns : List Nd) (p : Nat) : List Nd := ns.take p ++ [(3, (nd ns p).2.1, [], (nd ns p).2.2.2 ++ (nd ns (p + 1)).2.2.2)] ++ ns.drop (p + 2)
section JNT
variable {F p : Nat} {ns : List Nd} {σ : St}
theorem split2 (hp : p + 1 < ns.length) : ns = ns.take p ++ [nd ns p, nd ns (p + 1)] ++ ns.drop (p + 2) := by
  have e1 : ns.take (p + 2) = ns.take p ++ [nd ns p, nd ns (p + 1)] := by
    rw [show p + 2 = p + 1 + 1 from rfl, take_nd hp, take_nd (show p < ns.length by omega), List.append_assoc]
    rfl
  rw [← e1, List.take_append_drop]
theorem jn_len (hp : p + 1 < ns.length) : (jnL ns p).length = ns.length - 1 := by
  unfold jnL
  rw [List.length_append, List.length_append, List.length_take, List.length_drop, List.length_cons, List.length_nil]
  omega
theorem nd_jn {j : Nat} (hp : p + 1 < ns.length) : nd (jnL ns p) j = if j < p then nd ns j else if j = p then (3, (nd ns p).2.1, [], (nd ns p).2.2.2 ++ (nd ns (p + 1)).2.2.2) else nd ns (j + 1) := by
  have w1 : (ns.take p).length = p := by rw [List.length_take]; omega
  unfold jnL
  rw [ndApp, ndApp, List.length_append, w1, ndTake, ndDrop, List.length_cons, List.length_nil]
  by_cases c1 : j < p
  · rw [if_pos (by omega), if_pos c1, if_pos c1, if_pos c1]
  · by_cases c2 : j = p
    · rw [if_pos (by omega), if_neg c1, if_neg c1, if_pos c2, c2, Nat.sub_self]
      rfl
    · rw [if_neg (by omega), if_neg c1, if_neg c2, show p + 2 + (j - (p + (0 + 1))) = j + 1 by omega]
theorem jn_fl (h : jnb ns p) (h1 : (nd ns p).2.2.1 = []) (h2 : (nd ns (p + 1)).2.2.1 = []) : flW (jnL ns p) = flW ns ∧ flT (jnL ns p) = flT ns := by
  have e := split2 h.1
  obtain ⟨k0, k1, k2, k3⟩ := h
  unfold jnL
  generalize nd ns p = x at e h1 k1 k3 ⊢
  generalize nd ns (p + 1) = y at e h2 k2 k3 ⊢
  have w1 : flW [((3, x.2.1, [], x.2.2.2 ++ y.2.2.2) : Nd)] = [] := rfl
  have w2 : flW [x, y] = [] := by
    simp [flW, wOf, h1, h2, k1, k2]
  have t1 : flT [((3, x.2.1, [], x.2.2.2 ++ y.2.2.2) : Nd)] = x.2.2.2 ++ y.2.2.2 := by
    simp [flT, tOf]
  have t2 : flT [x, y] = x.2.2.2 ++ y.2.2.2 := by
    simp [flT, tOf, k1, k2]
  constructor
  · have e2 : flW ns = flW (ns.take p ++ [x, y] ++ ns.drop (p + 2)) := congrArg flW e
    rw [e2, flW_app, flW_app, flW_app, flW_app, w1, w2]
  · have e2 : flT ns = flT (ns.take p ++ [x, y] ++ ns.drop (p + 2)) := congrArg flT e
    rw [e2, flT_app, flT_app, flT_app, flT_app, t1, t2]
theorem szOk.jn (hs : szOk ns) (h : jnb ns p) (h1 : (nd ns p).2.2.1 = []) (h2 : (nd ns (p + 1)).2.2.1 = []) : szOk (jnL ns p) := by
  have hlen := jn_len h.1
  have hf := jn_fl h h1 h2
  refine ⟨⟨by rw [hlen]; have := hs.1.1; omega, fun i hi => ?_⟩, by rw [hf.2]; exact hs.2.1, by rw [hf.1]; exact hs.2.2⟩
  rw [hlen] at hi
  rw [nd_jn h.1]
  by_cases c1 : i < p
  · rw [if_pos c1]
    exact hs.1.2 i (by omega)
  · rw [if_neg c1]
    by_cases c2 : i = p
    · rw [if_pos c2]
      exact ⟨(hs.1.2 p (by have := h.1; omega)).1, (by decide : (3 : Nat) ≤ 1000)⟩
    · rw [if_neg c2]
      exact hs.1.2 (i + 1) (by omega)
theorem f140_n (h : cTr σ ns) (hs : szOk ns) (hp : p < ns.length) (hj : ¬ jnb ns p) : f140 F 1003 (Int32.ofNat p) σ = oI 0 σ := by
  have hn := hs.1.1
  have b0 := hs.1.2 p hp
  have i1 : inB (Int32.ofNat p) 30 := oN_rg (by omega) (by decide)
  have q1 := oN_n (show p < 2147483648 by omega)
  unfold f140
  rw [if_neg (oN_nn (by omega)), ltE, h.1.1, oN_p1]
  by_cases hl : p + 1 < ns.length
  · have b1 := hs.1.2 (p + 1) hl
    have i2 : inB (Int32.ofNat (p + 1)) 30 := oN_rg (by omega) (by decide)
    have q2 := oN_n (show p + 1 < 2147483648 by omega)
    rw [if_pos ((oN_lt (by omega) (by omega)).mpr hl), if_pos i1, ltE, rfT.1]
    simp only [q1]
    rw [(h.1.2 p hp).1]
    by_cases k1 : (nd ns p).1 = 3
    · rw [k1, if_pos (by rfl), if_pos i2, ltE]
      simp only [q2]
      rw [(h.1.2 (p + 1) hl).1]
      by_cases k2 : (nd ns (p + 1)).1 = 3
      · rw [k2, if_pos (by rfl), if_pos i1, ltE, if_pos i2, ltE, rfT.2.1, (h.1.2 p hp).2.1, (h.1.2 (p + 1) hl).2.1, if_neg (fun g => hj ⟨hl, k1, k2, (oN_eq (by omega) (by omega)).mp g⟩)]
      · rw [if_neg (fun g => k2 ((oE3 (by omega)).mp g))]
    · rw [if_neg (fun g => k1 ((oE3 (by omega)).mp g))]
  · rw [if_neg (fun g => hl ((oN_lt (by omega) (by omega)).mp g))]
theorem f140_y (hF : 500 ≤ F) (h : cTr σ ns) (hs : szOk ns) (hj : jnb ns p) (h1 : (nd ns p).2.2.1 = []) (h2 : (nd ns (p + 1)).2.2.1 = []) : ∃ τ, f140 F 1003 (Int32.ofNat p) σ = oI 1 τ ∧ agC σ τ ∧ cTr τ (jnL ns p) := by
  have hn := hs.1.1
  have hl := hj.1
  have hp : p < ns.length := by omega
  have hlen := jn_len hl
  have hf := jn_fl hj h1 h2
  have hs2 := hs.jn hj h1 h2
  have b0 := hs.1.2 p hp
  have b1 := hs.1.2 (p + 1) hl
  have i1 : inB (Int32.ofNat p) 30 := oN_rg (by omega) (by decide)
  have q1 := oN_n (show p < 2147483648 by omega)
  have i2 : inB (Int32.ofNat (p + 1)) 30 := oN_rg (by omega) (by decide)
  have q2 := oN_n (show p + 1 < 2147483648 by omega)
  unfold f140
  rw [if_neg (oN_nn (by omega)), ltE, h.1.1, oN_p1, if_pos ((oN_lt (by omega) (by omega)).mpr hl), if_pos i1, ltE, rfT.1]
  simp only [q1]
  rw [(h.1.2 p hp).1, hj.2.1, if_pos (by rfl), if_pos i2, ltE]
  simp only [q2]
  rw [(h.1.2 (p + 1) hl).1, hj.2.2.1, if_pos (by rfl), if_pos i1, ltE, if_pos i2, ltE, rfT.2.1, (h.1.2 p hp).2.1, (h.1.2 (p + 1) hl).2.1, if_pos (by rw [hj.2.2.2]), if_pos i1, ltE, if_pos i2, ltE, if_pos i1, ltE, rfT.2.2.2.1, (h.1.2 p hp).2.2.2, (h.1.2 (p + 1) hl).2.2.2, oN_ad]
  have a1 : agC σ (uI σ 1007 p (Int32.ofNat ((nd ns p).2.2.2.length + (nd ns (p + 1)).2.2.2.length))) := agC.refl.uI (by decide)
  have o1 : ∀ c, c ≠ 1007 → (uI σ 1007 p (Int32.ofNat ((nd ns p).2.2.2.length + (nd ns (p + 1)).2.2.2.length))).1 c = σ.1 c := fun c hc => u_ne hc
  have e1 : ∀ i, (uI σ 1007 p (Int32.ofNat ((nd ns p).2.2.2.length + (nd ns (p + 1)).2.2.2.length))).1 1007 i = if i = p then Int32.ofNat ((nd ns p).2.2.2.length + (nd ns (p + 1)).2.2.2.length) else σ.1 1007 i := fun i => u_at
  generalize uI σ 1007 p (Int32.ofNat ((nd ns p).2.2.2.length + (nd ns (p + 1)).2.2.2.length)) = σ1 at a1 o1 e1 ⊢
  have n1 : ∀ i, i < ns.length → i ≠ p → nD σ1 1003 i (nd ns i) := fun i hi hip => by
    have k := h.1.2 i hi
    refine ⟨by rw [o1 _ (by decide)]; exact k.1, by rw [o1 _ (by decide)]; exact k.2.1, by rw [o1 _ (by decide)]; exact k.2.2.1, ?_⟩
    rw [show 1003 + 4 = 1007 from rfl, e1, if_neg hip]
    exact k.2.2.2
  have n1p : nD σ1 1003 p (3, (nd ns p).2.1, [], (nd ns p).2.2.2 ++ (nd ns (p + 1)).2.2.2) := by
    have k := h.1.2 p hp
    rw [h1] at k
    refine ⟨by rw [o1 _ (by decide)]; exact k.1.trans (by rw [hj.2.1]), by rw [o1 _ (by decide)]; exact k.2.1, by rw [o1 _ (by decide)]; exact k.2.2.1, ?_⟩
    rw [show 1003 + 4 = 1007 from rfl, e1, if_pos (by rfl), List.length_append]
  rw [ltE, o1 1003 (by decide), h.1.1, oN_p1, oN_sb (by omega), show (1 : Int32) = Int32.ofNat 1 from rfl, oN_sb (by omega), f139_e (Or.inl rfl) (by omega) (by omega), cVo]
  have o3 : ∀ c, c < 1004 ∨ 1007 < c → (cpN σ1 1003 (p + 1 + 1) (p + 1) (ns.length - (p + 1) - 1)).1 c = σ1.1 c := fun c hc => cpN_oth hc
  have n5 : ∀ i, i < ns.length - 1 → nD (cpN σ1 1003 (p + 1 + 1) (p + 1) (ns.length - (p + 1) - 1)) 1003 i (nd (jnL ns p) i) := fun i hi => by
    rw [nd_jn hl]
    by_cases c1 : i < p
    · rw [if_pos c1]
      exact cpN_out (by omega) (n1 i (by omega) (by omega))
    · rw [if_neg c1]
      by_cases c2 : i = p
      · rw [if_pos c2, c2]
        exact cpN_out (by omega) n1p
      · rw [if_neg c2]
        exact cpN_in (by omega) (by omega) (by rw [show p + 1 + 1 + (i - (p + 1)) = i + 1 by omega]; exact n1 _ (by omega) (by omega))
  have a3 : agC σ (cpN σ1 1003 (p + 1 + 1) (p + 1) (ns.length - (p + 1) - 1)) := a1.cpN
  generalize cpN σ1 1003 (p + 1 + 1) (p + 1) (ns.length - (p + 1) - 1) = σ3 at o3 n5 a3 ⊢
  rw [ltE, o3 1003 (by decide), o1 1003 (by decide), h.1.1, oN_sb (by omega), ltE]
  have a5 := a3.uI (a := 1003) (j := 10) (x := Int32.ofNat (ns.length - 1)) (by decide)
  have b5 : bTr (uI σ3 1003 10 (Int32.ofNat (ns.length - 1))) (jnL ns p) := by
    refine ⟨by rw [u_eq, hlen], fun i hi => ?_⟩
    rw [hlen] at hi
    have k := n5 i hi
    unfold nD at k
    rw [u_ne (by decide), u_ne (by decide), u_ne (by decide), u_ne (by decide)]
    exact k
  have r5w : rowL (uI σ3 1003 10 (Int32.ofNat (ns.length - 1))) 1014 (flW (jnL ns p)) := by
    rw [hf.1]
    exact rowL_fr (by rw [u_ne (by decide), o3 1014 (by decide), o1 1014 (by decide)]) (by rw [u_ne (by decide), o3 1015 (by decide), o1 1015 (by decide)]) h.2.1
  have r5t : rowL (uI σ3 1003 10 (Int32.ofNat (ns.length - 1))) 1012 (flT (jnL ns p)) := by
    rw [hf.2]
    exact rowL_fr (by rw [u_ne (by decide), o3 1012 (by decide), o1 1012 (by decide)]) (by rw [u_ne (by decide), o3 1013 (by decide), o1 1013 (by decide)]) h.2.2.1
  generalize uI σ3 1003 10 (Int32.ofNat (ns.length - 1)) = σ5 at a5 b5 r5w r5t ⊢
  obtain ⟨τ, e2, a6, m6⟩ := f125_e (F := F) hF hs2 b5
  rw [e2, cVo]
  exact ⟨τ, rfl, a5.trans a6.c, a6.b b5, rowL_fr (a6.1 1014 (by omega)) (a6.1 1015 (by omega)) r5w, rowL_fr (a6.1 1012 (by omega)) (a6.1 1013 (by omega)) r5t, m6⟩
end JNT
