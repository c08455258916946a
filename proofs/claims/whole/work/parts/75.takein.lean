/-! THE CLASS TAKES NODES IN -/
theorem f95_0 {F r : Nat} {l : List Int32} {σ : St} {r2 p n : Nat} {l2 : List Int32} (hr : isRw r) (hr2 : isRw r2) (h : rowL σ r l) (h2 : rowL σ r2 l2) (hl : l.length + n ≤ capR r) (hp : p ≤ l.length) (hq : n ≤ l2.length) (hl2 : l2.length ≤ capR r2) : f95 F r (Int32.ofNat p) r2 0 (Int32.ofNat n) σ = oV (rPut σ r r2 p 0 n l.length) := f95_r (q := 0) hr hr2 h h2 hl hp (by omega) hl2
theorem f139_0 {F t n : Nat} {σ : St} (hf : n ≤ 30) (ht : t + n ≤ 30) : f139 F 1003 1016 0 (Int32.ofNat t) (Int32.ofNat n) σ = oV (cpN σ 1016 0 t n) := f139_e (f := 0) (Or.inr rfl) (by omega) ht
section TKI
variable {F a : Nat} {ns m : List Nd} {σ : St}
theorem cTr.len (h : cTr σ ns) (hs : szOk ns) : (flW ns).length ≤ 4096 ∧ (flT ns).length ≤ 4096 ∧ ns.length ≤ 30 := ⟨hs.2.2, hs.2.1, hs.1.1⟩
theorem f138_e (h : cTr σ ns) (hs : szOk ns) (hd : drf σ m (flW m) (flT m)) (hn : ns.length + m.length ≤ 30) (hw : (flW ns).length + (flW m).length ≤ 4096) (ht : (flT ns).length + (flT m).length ≤ 4096) : f138 F 1003 1016 σ = oI 1 σ := by
  have c2 : capR 1012 = 4096 := by decide
  have c4 : capR 1014 = 4096 := by decide
  unfold f138
  rw [ltE, h.1.1, ltE, hd.1, oN_ad, if_neg (fun g => by have := (oN_lt (p := 30) (by decide) (by omega)).mp g; omega), rfT.2.2.2.2.2.2.2.2.1, rfT.2.2.2.2.2.2.2.2.2, rfD.2.2.2.2.1, rfD.2.2.2.2.2, ltE, hd.2.2.1.1, f89_r (Or.inr (Or.inl rfl)) h.2.2.1 (by rw [c2]; omega) (by omega), cIo, c2, decide_eq_true ht, if_neg (show ¬ b2i true = 0 by decide), ltE, hd.2.1.1, f89_r (Or.inr (Or.inr (Or.inl rfl))) h.2.1 (by rw [c4]; omega) (by omega), cIo, c4, decide_eq_true hw, if_neg (show ¬ b2i true = 0 by decide)]
theorem f137_e (hF : 500 ≤ F) (h : cTr σ ns) (hs : szOk ns) (hd : drf σ m (flW m) (flT m)) (ha : a ≤ ns.length) (hs2 : szOk (insL ns a m)) (hwm : (flW m).length ≤ 120) (htm : (flT m).length ≤ 120) : ∃ τ, f137 F 1003 (Int32.ofNat a) 1016 σ = oV τ ∧ agC σ τ ∧ cTr τ (insL ns a m) := by
  have c2 : capR 1012 = 4096 := by decide
  have c4 : capR 1014 = 4096 := by decide
  have c25 : capR 1025 = 120 := by decide
  have c27 : capR 1027 = 120 := by decide
  have hlen := ins_len (m := m) ha
  have hn2 := hs2.1.1
  rw [hlen] at hn2
  have ew : flW (insL ns a m) = (flW ns).take (wF ns a) ++ flW m ++ (flW ns).drop (wF ns a) := by
    rw [flW_tk.1, flW_tk.2]
    unfold insL
    rw [flW_app, flW_app]
  have et : flT (insL ns a m) = (flT ns).take (tF ns a) ++ flT m ++ (flT ns).drop (tF ns a) := by
    rw [flT_tk.1, flT_tk.2]
    unfold insL
    rw [flT_app, flT_app]
  have wa := wF_le (ns := ns) ha
  have ta := tF_le (ns := ns) ha
  rw [wF_all] at wa
  rw [tF_all] at ta
  have lw : (flW (insL ns a m)).length = (flW ns).length + (flW m).length := by
    rw [ew, List.length_append, List.length_append, List.length_take, List.length_drop]
    omega
  have lt2 : (flT (insL ns a m)).length = (flT ns).length + (flT m).length := by
    rw [et, List.length_append, List.length_append, List.length_take, List.length_drop]
    omega
  have sw := hs2.2.2
  have st := hs2.2.1
  rw [lw] at sw
  rw [lt2] at st
  have i1 : inB (Int32.ofNat a) 31 := oN_rg (by omega) (by decide)
  have q1 := oN_n (show a < 2147483648 by omega)
  unfold f137
  rw [if_neg (oN_nn (by omega)), ltE, h.1.1, if_neg (fun g => by have := (oN_lt (by omega) (by omega)).mp g; omega), f138_e h hs hd hn2 sw st, cIo, if_neg (show ¬ (1 : Int32) = 0 by decide), if_pos i1]
  simp only [q1]
  rw [rfT.2.2.2.2.2.2.1, (h.2.2.2.1 a ha).1, ltE, rfT.2.2.2.2.2.2.2.2.1, rfT.2.2.2.2.2.2.2.2.2, rfD.2.2.2.2.1, rfD.2.2.2.2.2, hd.2.2.1.1, ltE, f95_0 (r := 1012) (r2 := 1025) (l := flT ns) (l2 := flT m) (Or.inr (Or.inl rfl)) (Or.inr (Or.inr (Or.inr (Or.inl rfl)))) h.2.2.1 hd.2.2.1 (by rw [c2]; omega) ta (by omega) (by rw [c25]; omega), cVo]
  have r1 := rPut_row (r := 1012) (r2 := 1025) (p := tF ns a) (q := 0) (n := (flT m).length) (by decide) h.2.2.1 hd.2.2.1 ta (by omega)
  rw [List.drop_zero, List.take_length, ← et] at r1
  have a1 : agC σ (rPut σ 1012 1025 (tF ns a) 0 (flT m).length (flT ns).length) := agC.refl.rPut (Or.inl rfl)
  have o1 : ∀ c, c ≠ 1012 → c ≠ 1013 → (rPut σ 1012 1025 (tF ns a) 0 (flT m).length (flT ns).length).1 c = σ.1 c := fun c h1 h2 => rPut_oth h1 h2
  generalize rPut σ 1012 1025 (tF ns a) 0 (flT m).length (flT ns).length = σ1 at r1 a1 o1 ⊢
  have w14 : rowL σ1 1014 (flW ns) := rowL_fr (o1 _ (by decide) (by decide)) (o1 _ (by decide) (by decide)) h.2.1
  have w27 : rowL σ1 1027 (flW m) := rowL_fr (o1 _ (by decide) (by decide)) (o1 _ (by decide) (by decide)) hd.2.1
  rw [if_pos i1, rfT.2.2.2.2.2.2.2.1, o1 1011 (by decide) (by decide), (h.2.2.2.1 a ha).2, ltE, w27.1, ltE, f95_0 (r := 1014) (r2 := 1027) (l := flW ns) (l2 := flW m) (Or.inr (Or.inr (Or.inl rfl))) (Or.inr (Or.inr (Or.inr (Or.inr rfl)))) w14 w27 (by rw [c4]; omega) wa (by omega) (by rw [c27]; omega), cVo]
  have r2 := rPut_row (r := 1014) (r2 := 1027) (p := wF ns a) (q := 0) (n := (flW m).length) (by decide) w14 w27 wa (by omega)
  rw [List.drop_zero, List.take_length, ← ew] at r2
  have a2 : agC σ (rPut σ1 1014 1027 (wF ns a) 0 (flW m).length (flW ns).length) := a1.rPut (Or.inr rfl)
  have o2 : ∀ c, c ≠ 1012 → c ≠ 1013 → c ≠ 1014 → c ≠ 1015 → (rPut σ1 1014 1027 (wF ns a) 0 (flW m).length (flW ns).length).1 c = σ.1 c := fun c h1 h2 h3 h4 => (rPut_oth h3 h4).trans (o1 c h1 h2)
  have r1b : rowL (rPut σ1 1014 1027 (wF ns a) 0 (flW m).length (flW ns).length) 1012 (flT (insL ns a m)) := rowL_fr (rPut_oth (by decide) (by decide)) (rPut_oth (by decide) (by decide)) r1
  generalize rPut σ1 1014 1027 (wF ns a) 0 (flW m).length (flW ns).length = σ2 at r2 a2 o2 r1b ⊢
  have n2 : ∀ i, i < ns.length → nD σ2 1003 i (nd ns i) := fun i hi => by
    unfold nD
    rw [o2 _ (by decide) (by decide) (by decide) (by decide), o2 _ (by decide) (by decide) (by decide) (by decide), o2 _ (by decide) (by decide) (by decide) (by decide), o2 _ (by decide) (by decide) (by decide) (by decide)]
    exact h.1.2 i hi
  have m2 : ∀ i, i < m.length → nD σ2 1016 i (nd m i) := fun i hi => by
    unfold nD
    rw [o2 _ (by decide) (by decide) (by decide) (by decide), o2 _ (by decide) (by decide) (by decide) (by decide), o2 _ (by decide) (by decide) (by decide) (by decide), o2 _ (by decide) (by decide) (by decide) (by decide)]
    have k := hd.2.2.2 i (nd m i) (nd_some hi)
    exact ⟨k.1, k.2.1, k.2.2.1, k.2.2.2.1⟩
  rw [ltE, o2 1016 (by decide) (by decide) (by decide) (by decide), hd.1, ltE, o2 1003 (by decide) (by decide) (by decide) (by decide), h.1.1, oN_ad, oN_sb ha, f139_e (Or.inl rfl) (by omega) (by omega), cVo]
  have o3 : ∀ c, c < 1004 ∨ 1007 < c → (cpN σ2 1003 a (a + m.length) (ns.length - a)).1 c = σ2.1 c := fun c hc => cpN_oth hc
  have n3 : ∀ i, i < a → nD (cpN σ2 1003 a (a + m.length) (ns.length - a)) 1003 i (nd ns i) := fun i hi => cpN_out (by omega) (n2 i (by omega))
  have n4 : ∀ i, a + m.length ≤ i → i < ns.length + m.length → nD (cpN σ2 1003 a (a + m.length) (ns.length - a)) 1003 i (nd ns (i - m.length)) := fun i h1 h2 => cpN_in h1 (by omega) (by rw [show a + (i - (a + m.length)) = i - m.length by omega]; exact n2 _ (by omega))
  have m3 : ∀ i, i < m.length → nD (cpN σ2 1003 a (a + m.length) (ns.length - a)) 1016 i (nd m i) := fun i hi => by
    unfold nD
    rw [o3 _ (by decide), o3 _ (by decide), o3 _ (by decide), o3 _ (by decide)]
    exact m2 i hi
  have a3 : agC σ (cpN σ2 1003 a (a + m.length) (ns.length - a)) := a2.cpN
  generalize cpN σ2 1003 a (a + m.length) (ns.length - a) = σ3 at o3 n3 n4 m3 a3 ⊢
  rw [ltE, o3 1016 (by decide), o2 1016 (by decide) (by decide) (by decide) (by decide), hd.1, f139_0 (by omega) (by omega), cVo]
  have o4 : ∀ c, c < 1004 ∨ 1007 < c → (cpN σ3 1016 0 a m.length).1 c = σ2.1 c := fun c hc => (cpN_oth hc).trans (o3 c hc)
  have n5 : ∀ i, i < ns.length + m.length → nD (cpN σ3 1016 0 a m.length) 1003 i (nd (insL ns a m) i) := fun i hi => by
    rw [nd_ins ha]
    by_cases c1 : i < a
    · rw [if_pos c1]
      exact cpN_out (by omega) (n3 i c1)
    · rw [if_neg c1]
      by_cases c3 : i < a + m.length
      · rw [if_pos c3]
        exact cpN_in (by omega) c3 (by rw [Nat.zero_add]; exact m3 _ (by omega))
      · rw [if_neg c3]
        exact cpN_out (by omega) (n4 i (by omega) hi)
  have a4 : agC σ (cpN σ3 1016 0 a m.length) := a3.cpN
  generalize cpN σ3 1016 0 a m.length = σ4 at o4 n5 a4 ⊢
  rw [ltE, o4 1003 (by decide), o2 1003 (by decide) (by decide) (by decide) (by decide), h.1.1, ltE, o4 1016 (by decide), o2 1016 (by decide) (by decide) (by decide) (by decide), hd.1, oN_ad, ltE]
  have a5 := a4.uI (a := 1003) (j := 10) (x := Int32.ofNat (ns.length + m.length)) (by decide)
  have b5 : bTr (uI σ4 1003 10 (Int32.ofNat (ns.length + m.length))) (insL ns a m) := by
    refine ⟨by rw [u_eq, hlen], fun i hi => ?_⟩
    rw [hlen] at hi
    have k := n5 i hi
    unfold nD at k
    rw [u_ne (by decide), u_ne (by decide), u_ne (by decide), u_ne (by decide)]
    exact k
  have r5w : rowL (uI σ4 1003 10 (Int32.ofNat (ns.length + m.length))) 1014 (flW (insL ns a m)) := rowL_fr (by rw [u_ne (by decide), o4 1014 (by decide)]) (by rw [u_ne (by decide), o4 1015 (by decide)]) r2
  have r5t : rowL (uI σ4 1003 10 (Int32.ofNat (ns.length + m.length))) 1012 (flT (insL ns a m)) := rowL_fr (by rw [u_ne (by decide), o4 1012 (by decide)]) (by rw [u_ne (by decide), o4 1013 (by decide)]) r1b
  generalize uI σ4 1003 10 (Int32.ofNat (ns.length + m.length)) = σ5 at a5 b5 r5w r5t ⊢
  obtain ⟨τ, e1, a6, m6⟩ := f125_e (F := F) hF hs2 b5
  rw [e1, cVo]
  exact ⟨τ, rfl, a5.trans a6.c, a6.b b5, rowL_fr (a6.1 1014 (by omega)) (a6.1 1015 (by omega)) r5w, rowL_fr (a6.1 1012 (by omega)) (a6.1 1013 (by omega)) r5t, m6⟩
end TKI
