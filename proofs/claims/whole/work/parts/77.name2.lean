/-! THE CLASS GIVES A NAME -/
def nmL (ns : List Nd) (p : Nat) (nm : List Int32) : List Nd := ns.take p ++ [((nd ns p).1, (nd ns p).2.1, nm, (nd ns p).2.2.2)] ++ ns.drop (p + 1)
section GVN
variable {F p : Nat} {ns : List Nd} {σ : St} {b : List Int32}
theorem split1 (hp : p < ns.length) : ns = ns.take p ++ [nd ns p] ++ ns.drop (p + 1) := by
  rw [← take_nd hp, List.take_append_drop]
theorem nmL_len (hp : p < ns.length) : (nmL ns p b).length = ns.length := by
  unfold nmL
  rw [List.length_append, List.length_append, List.length_take, List.length_drop, List.length_cons, List.length_nil]
  omega
theorem nd_nm {j : Nat} (hp : p < ns.length) : nd (nmL ns p b) j = if j = p then ((nd ns p).1, (nd ns p).2.1, b, (nd ns p).2.2.2) else nd ns j := by
  have w1 : (ns.take p).length = p := by rw [List.length_take]; omega
  unfold nmL
  rw [ndApp, ndApp, List.length_append, w1, ndTake, ndDrop, List.length_cons, List.length_nil]
  by_cases c1 : j < p
  · rw [if_pos (by omega), if_pos c1, if_pos c1, if_neg (by omega)]
  · by_cases c2 : j = p
    · rw [if_pos (by omega), if_neg c1, if_pos c2, c2, Nat.sub_self]
      rfl
    · rw [if_neg (by omega), if_neg c2, show p + 1 + (j - (p + (0 + 1))) = j by omega]
theorem nm_fl (hp : p < ns.length) (hk : ¬ (nd ns p).1 = 3) : flW (nmL ns p b) = (flW ns).take (wF ns p) ++ b ++ (flW ns).drop (wF ns p + (nd ns p).2.2.1.length) ∧ flT (nmL ns p b) = flT ns := by
  have e := split1 hp
  unfold nmL
  generalize nd ns p = x at e hk ⊢
  have w1 : flW [((x.1, x.2.1, b, x.2.2.2) : Nd)] = b ++ x.2.2.2 := by
    simp [flW, wOf, hk]
  have w2 : flW [x] = x.2.2.1 ++ x.2.2.2 := by
    simp [flW, wOf, hk]
  have t1 : flT [((x.1, x.2.1, b, x.2.2.2) : Nd)] = [] := by
    simp [flT, tOf, hk]
  have t2 : flT [x] = [] := by
    simp [flT, tOf, hk]
  have e2 : flW ns = flW (ns.take p) ++ (x.2.2.1 ++ (x.2.2.2 ++ flW (ns.drop (p + 1)))) := by
    have e3 : flW ns = flW (ns.take p ++ [x] ++ ns.drop (p + 1)) := congrArg flW e
    rw [e3, flW_app, flW_app, w2, List.append_assoc, List.append_assoc]
  constructor
  · have e4 : (flW ns).drop (wF ns p + x.2.2.1.length) = x.2.2.2 ++ flW (ns.drop (p + 1)) := by
      rw [← List.drop_drop, show (flW ns).drop (wF ns p) = x.2.2.1 ++ (x.2.2.2 ++ flW (ns.drop (p + 1))) by rw [e2]; exact List.drop_left, List.drop_left]
    rw [flW_tk.1, e4, flW_app, flW_app, w1, List.append_assoc, List.append_assoc, List.append_assoc]
  · have e3 : flT ns = flT (ns.take p ++ [x] ++ ns.drop (p + 1)) := congrArg flT e
    rw [e3, flT_app, flT_app, flT_app, flT_app, t1, t2]
theorem f142_e (hF : 500 ≤ F) (h : cTr σ ns) (hs : szOk ns) (hB : bufC σ b) (hb : b.length ≤ 120) (hp : p < ns.length) (hk : ¬ (nd ns p).1 = 3) (hs2 : szOk (nmL ns p b)) (hw : (flW ns).length + b.length ≤ 4096) : ∃ τ, f142 F 1003 (Int32.ofNat p) 1001 σ = oV τ ∧ agC σ τ ∧ cTr τ (nmL ns p b) := by
  have c4 : capR 1014 = 4096 := by decide
  have c1 : capR 1001 = 120 := by decide
  have hn := hs.1.1
  have hlen := nmL_len (b := b) hp
  have hf := nm_fl (b := b) hp hk
  have sw := hs.2.2
  have wa := wF_s hp
  have wb := wF_le (ns := ns) (show p + 1 ≤ ns.length by omega)
  rw [wF_all] at wb
  have i1 : inB (Int32.ofNat p) 31 := oN_rg (by omega) (by decide)
  have i2 : inB (Int32.ofNat p) 30 := oN_rg (by omega) (by decide)
  have q1 := oN_n (show p < 2147483648 by omega)
  unfold f142
  rw [if_pos i1, ltE, if_pos i2, ltE]
  simp only [q1]
  rw [rfT.2.2.2.2.2.2.2.1, (h.2.2.2.1 p (by omega)).2, rfT.2.2.1, (h.1.2 p hp).2.2.1, rfT.2.2.2.2.2.2.2.2.2, f98_r (r := 1014) (l := flW ns) (Or.inr (Or.inr (Or.inl rfl))) h.2.1 (by rw [c4]; omega) (by omega), cVo]
  have r1 := rCut_row (r := 1014) (p := wF ns p) (n := (nd ns p).2.2.1.length) h.2.1 (by omega)
  have a1 : agC σ (rCut σ 1014 (wF ns p) (nd ns p).2.2.1.length (flW ns).length) := agC.refl.rCut (Or.inr rfl)
  have o1 : ∀ c, c ≠ 1014 → c ≠ 1015 → (rCut σ 1014 (wF ns p) (nd ns p).2.2.1.length (flW ns).length).1 c = σ.1 c := fun c h1 h2 => rCut_oth h1 h2
  generalize rCut σ 1014 (wF ns p) (nd ns p).2.2.1.length (flW ns).length = σ1 at r1 a1 o1 ⊢
  have l1 : ((flW ns).take (wF ns p) ++ (flW ns).drop (wF ns p + (nd ns p).2.2.1.length)).length = (flW ns).length - (nd ns p).2.2.1.length := by
    rw [List.length_append, List.length_take, List.length_drop]
    omega
  have t1 : (List.take (wF ns p) (flW ns)).length = wF ns p := by
    rw [List.length_take]
    omega
  have hB1 : rowL σ1 1001 b := rowL_fr (o1 _ (by decide) (by decide)) (o1 _ (by decide) (by decide)) (rowL_buf.mpr hB)
  rw [if_pos i1, ltE, o1 1011 (by decide) (by decide), (h.2.2.2.1 p (by omega)).2, ltE, hB1.1, f95_0 (r := 1014) (r2 := 1001) (l2 := b) (Or.inr (Or.inr (Or.inl rfl))) (Or.inl rfl) r1 hB1 (by rw [c4, l1]; omega) (by rw [l1]; omega) (by omega) (by rw [c1]; omega), cVo]
  have r2 := rPut_row (r := 1014) (r2 := 1001) (p := wF ns p) (q := 0) (n := b.length) (by decide) r1 hB1 (by rw [l1]; omega) (by omega)
  have tA : ∀ B : List Int32, (List.take (wF ns p) (flW ns) ++ B).take (wF ns p) = List.take (wF ns p) (flW ns) := fun B => by
    rw [List.take_append_of_le_length (by omega), List.take_of_length_le (by omega)]
  have dA : ∀ B : List Int32, (List.take (wF ns p) (flW ns) ++ B).drop (wF ns p) = B := fun B => by
    rw [List.drop_append_of_le_length (by omega), List.drop_eq_nil_of_le (by omega), List.nil_append]
  rw [List.drop_zero, List.take_length, tA, dA, ← hf.1] at r2
  rw [l1] at r2
  rw [l1]
  have a2 : agC σ (rPut σ1 1014 1001 (wF ns p) 0 b.length ((flW ns).length - (nd ns p).2.2.1.length)) := a1.rPut (Or.inr rfl)
  have o2 : ∀ c, c ≠ 1014 → c ≠ 1015 → (rPut σ1 1014 1001 (wF ns p) 0 b.length ((flW ns).length - (nd ns p).2.2.1.length)).1 c = σ.1 c := fun c h1 h2 => (rPut_oth h1 h2).trans (o1 c h1 h2)
  generalize rPut σ1 1014 1001 (wF ns p) 0 b.length ((flW ns).length - (nd ns p).2.2.1.length) = σ2 at r2 a2 o2 ⊢
  rw [ltE, o2 1001 (by decide) (by decide), hB.1, if_pos i2, ltE]
  have a5 := a2.uI (a := 1006) (j := p) (x := Int32.ofNat b.length) (by decide)
  have b5 : bTr (uI σ2 1006 p (Int32.ofNat b.length)) (nmL ns p b) := by
    refine ⟨by rw [u_ne (by decide), o2 1003 (by decide) (by decide), hlen]; exact h.1.1, fun i hi => ?_⟩
    rw [hlen] at hi
    have k := h.1.2 i hi
    rw [nd_nm hp, u_ne (by decide), u_ne (by decide), u_at, u_ne (by decide), o2 1004 (by decide) (by decide), o2 1005 (by decide) (by decide), o2 1006 (by decide) (by decide), o2 1007 (by decide) (by decide)]
    by_cases c : i = p
    · rw [if_pos c, if_pos c]
      rw [c] at k ⊢
      exact ⟨k.1, k.2.1, rfl, k.2.2.2⟩
    · rw [if_neg c, if_neg c]
      exact k
  have r5w : rowL (uI σ2 1006 p (Int32.ofNat b.length)) 1014 (flW (nmL ns p b)) := rowL_fr (by rw [u_ne (by decide)]) (by rw [u_ne (by decide)]) r2
  have r5t : rowL (uI σ2 1006 p (Int32.ofNat b.length)) 1012 (flT (nmL ns p b)) := by
    rw [hf.2]
    exact rowL_fr (by rw [u_ne (by decide), o2 1012 (by decide) (by decide)]) (by rw [u_ne (by decide), o2 1013 (by decide) (by decide)]) h.2.2.1
  generalize uI σ2 1006 p (Int32.ofNat b.length) = σ5 at a5 b5 r5w r5t ⊢
  obtain ⟨τ, e2, a6, m6⟩ := f125_e (F := F) hF hs2 b5
  rw [e2, cVo]
  exact ⟨τ, rfl, a5.trans a6.c, a6.b b5, rowL_fr (a6.1 1014 (by omega)) (a6.1 1015 (by omega)) r5w, rowL_fr (a6.1 1012 (by omega)) (a6.1 1013 (by omega)) r5t, m6⟩
end GVN
