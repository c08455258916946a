/-! THE STRING-VALUE -/
def sv (ns : List Nd) (p : Nat) : List Int32 := if 1 < (nd ns p).1 then (nd ns p).2.2.2 else flT ((ns.drop (p + 1)).take (siz ns p))
theorem nn_cases (y : Int32) (h : ¬ y < 0) : ∃ k, k < 2147483648 ∧ y = Int32.ofNat k := by
  refine ⟨y.toNatClampNeg, ?_, ?_⟩
  · have := Int32.toInt_lt y
    rw [tcn]
    omega
  · rw [Int32.lt_iff_toInt_lt] at h
    have h3 : (0 : Int32).toInt = 0 := rfl
    rw [h3] at h
    have := Int32.toInt_lt y
    rw [← Int32.toInt_inj, tcn, oN_i (by omega)]
    omega
section VAL
variable {F c p : Nat} {x : Int32} {σ : St} {b : List Int32} {ns : List Nd}
theorem flT_mid {a d : Nat} : stre (flT ns) (tF ns a) (tF ns (a + d) - tF ns a) = flT ((ns.drop a).take d) := by
  have h1 := tF_le (ns := ns) (show a ≤ a + d by omega)
  have e : flT (ns.take (a + d)) = flT (ns.take a) ++ flT ((ns.drop a).take d) := by
    rw [List.take_add, flT_app]
  have e2 : flT ns = flT (ns.take a) ++ (flT ((ns.drop a).take d) ++ flT (ns.drop (a + d))) := by
    rw [← flT_app, ← flT_app, ← List.drop_drop, List.take_append_drop, List.take_append_drop]
  have l1 : tF ns (a + d) - tF ns a = (flT ((ns.drop a).take d)).length := by
    unfold tF
    rw [e, List.length_append]
    omega
  unfold stre
  rw [l1]
  conv => lhs; rw [e2]
  unfold tF
  rw [List.drop_left]
  exact List.take_left
theorem flT_cons {y : Nd} {l : List Nd} : flT (y :: l) = tOf y ++ flT l := rfl
theorem flW_cons {y : Nd} {l : List Nd} : flW (y :: l) = wOf y ++ flW l := rfl
theorem flW_sp (hp : p < ns.length) (hk : ¬ (nd ns p).1 = 3) : flW ns = flW (ns.take p) ++ ((nd ns p).2.2.1 ++ ((nd ns p).2.2.2 ++ flW (ns.drop (p + 1)))) := by
  have e := split1 hp
  generalize nd ns p = x at e hk ⊢
  have w2 : flW [x] = x.2.2.1 ++ x.2.2.2 := by simp [flW, wOf, hk]
  have e3 : flW ns = flW (ns.take p ++ [x] ++ ns.drop (p + 1)) := congrArg flW e
  rw [e3, flW_app, flW_app, w2, List.append_assoc, List.append_assoc]
theorem sv_el (hp : p < ns.length) (hk : ¬ 1 < (nd ns p).1) : flT ((ns.drop p).take (siz ns p + 1)) = sv ns p := by
  unfold sv
  rw [if_neg hk]
  have e : ns.drop p = nd ns p :: ns.drop (p + 1) := by
    rw [List.drop_eq_getElem_cons hp]
    congr 1
    have := nd_some hp
    rw [List.getElem?_eq_getElem hp] at this
    injection this
  rw [e, List.take_succ_cons, flT_cons]
  unfold tOf
  rw [if_neg (by omega), List.nil_append]
theorem sv_tx (hp : p < ns.length) (hk : (nd ns p).1 = 3) : flT ((ns.drop p).take (0 + 1)) = sv ns p := by
  unfold sv
  rw [if_pos (by omega)]
  have e : ns.drop p = nd ns p :: ns.drop (p + 1) := by
    rw [List.drop_eq_getElem_cons hp]
    congr 1
    have := nd_some hp
    rw [List.getElem?_eq_getElem hp] at this
    injection this
  rw [e, List.take_succ_cons, List.take_zero, flT_cons]
  unfold tOf
  rw [if_pos hk]
  exact List.append_nil _
/-- where the class finds it: the row, the first, the end -/
theorem f130_e (h : cTr σ ns) (hs : szOk ns) (hp : p < ns.length) : f130 F 1003 (Int32.ofNat p) σ = oI (b2i (decide ((nd ns p).1 = 2 ∨ (nd ns p).1 = 4))) σ := by
  have hn := hs.1.1
  have b := (hs.1.2 p hp).2
  have i2 : inB (Int32.ofNat p) 30 := oN_rg (by omega) (by decide)
  unfold f130
  rw [if_pos i2, ltE]
  simp only [oN_n (show p < 2147483648 by omega)]
  rw [rfT.1, (h.1.2 p hp).1]
  by_cases c2 : (nd ns p).1 = 2
  · rw [c2, if_pos (by rfl), decide_eq_true (Or.inl rfl)]
    rfl
  · rw [if_neg (fun g => c2 ((oE2 (by omega)).mp g)), if_pos i2, ltE]
    by_cases c4 : (nd ns p).1 = 4
    · rw [c4, if_pos (by rfl), decide_eq_true (Or.inr rfl)]
      rfl
    · rw [if_neg (fun g => c4 ((oE4 (by omega)).mp g)), decide_eq_false (fun g => g.elim c2 c4)]
      rfl
abbrev inW (ns : List Nd) (p : Nat) : Prop := (nd ns p).1 = 2 ∨ (nd ns p).1 = 4
def vFr (ns : List Nd) (p : Nat) : Nat := if inW ns p then wF ns p + (nd ns p).2.2.1.length else tF ns p
def vTo (ns : List Nd) (p : Nat) : Nat := if inW ns p then wF ns (p + 1) else tF ns (p + siz ns p + 1)
def vRw (ns : List Nd) (p : Nat) : Nat := if inW ns p then 1014 else 1012
def vLs (ns : List Nd) (p : Nat) : List Int32 := if inW ns p then flW ns else flT ns
theorem f131_e (h : cTr σ ns) (hs : szOk ns) (hp : p < ns.length) : f131 F 1003 (Int32.ofNat p) σ = oI (Int32.ofNat (vFr ns p)) σ := by
  have hn := hs.1.1
  have i1 : inB (Int32.ofNat p) 31 := oN_rg (by omega) (by decide)
  have i2 : inB (Int32.ofNat p) 30 := oN_rg (by omega) (by decide)
  have q1 := oN_n (show p < 2147483648 by omega)
  unfold f131 vFr
  rw [f130_e h hs hp, cIo]
  by_cases c2 : inW ns p
  · rw [decide_eq_true c2, if_neg (show ¬ b2i true = 0 by decide), if_pos c2, if_pos i1, ltE, rfT.2.2.2.2.2.2.2.1]
    simp only [q1]
    rw [(h.2.2.2.1 p (by omega)).2, if_pos i2, ltE, rfT.2.2.1, (h.1.2 p hp).2.2.1, oN_ad]
  · rw [decide_eq_false c2, if_pos b2i_f, if_neg c2, if_pos i1, ltE, rfT.2.2.2.2.2.2.1]
    simp only [q1]
    rw [(h.2.2.2.1 p (by omega)).1]
theorem f129_e (h : cTr σ ns) (hs : szOk ns) (hp : p < ns.length) : f129 F 1003 (Int32.ofNat p) σ = oI (Int32.ofNat (vTo ns p)) σ := by
  have hn := hs.1.1
  have hz := siz_le hp
  have i1 : inB (Int32.ofNat p) 31 := oN_rg (by omega) (by decide)
  have i2 : inB (Int32.ofNat p) 30 := oN_rg (by omega) (by decide)
  have i3 : inB (Int32.ofNat (p + 1)) 31 := oN_rg (by omega) (by decide)
  have q1 := oN_n (show p < 2147483648 by omega)
  unfold f129 vTo
  rw [f130_e h hs hp, cIo]
  by_cases c2 : inW ns p
  · rw [decide_eq_true c2, if_neg (show ¬ b2i true = 0 by decide), if_pos c2, oN_p1, if_pos i3, ltE, rfT.2.2.2.2.2.2.2.1, oN_n (by omega), (h.2.2.2.1 (p + 1) (by omega)).2]
  · rw [decide_eq_false c2, if_pos b2i_f, if_neg c2, if_pos i2, ltE, rfT.2.2.2.2.2.1]
    simp only [q1]
    rw [(h.2.2.2.2 p hp).2, oN_ad, oN_p1, if_pos (oN_rg (by omega) (by decide)), ltE, rfT.2.2.2.2.2.2.1, oN_n (by omega), (h.2.2.2.1 _ (by omega)).1]
theorem f132_e (h : cTr σ ns) (hs : szOk ns) (hp : p < ns.length) : f132 F 1003 (Int32.ofNat p) σ = some (.inl (some (.ref (vRw ns p))), σ) := by
  unfold f132 vRw
  rw [f130_e h hs hp, cIo]
  by_cases c2 : inW ns p
  · rw [decide_eq_true c2, if_neg (show ¬ b2i true = 0 by decide), if_pos c2, rfT.2.2.2.2.2.2.2.2.2]
  · rw [decide_eq_false c2, if_pos b2i_f, if_neg c2, rfT.2.2.2.2.2.2.2.2.1]
theorem v_str (hc : chOk ns) (hk4 : (nd ns p).1 ≤ 4) (hp : p < ns.length) : vFr ns p ≤ vTo ns p ∧ vTo ns p ≤ (vLs ns p).length ∧ stre (vLs ns p) (vFr ns p) (vTo ns p - vFr ns p) = sv ns p := by
  have hz := siz_le hp
  have w1 := wF_s hp
  have w2 := wF_le (ns := ns) (show p + 1 ≤ ns.length by omega)
  rw [wF_all] at w2
  unfold vFr vTo vLs
  by_cases c2 : inW ns p
  · rw [if_pos c2, if_pos c2, if_pos c2]
    have k3 : ¬ (nd ns p).1 = 3 := by
      rcases c2 with g | g <;> omega
    rw [if_neg k3] at w1
    refine ⟨by omega, w2, ?_⟩
    unfold sv
    rw [if_pos (by rcases c2 with g | g <;> omega)]
    have e2 := flW_sp hp k3
    rw [show wF ns (p + 1) - (wF ns p + (nd ns p).2.2.1.length) = (nd ns p).2.2.2.length by omega]
    unfold stre
    rw [← List.drop_drop]
    conv => lhs; rw [e2]
    unfold wF
    rw [List.drop_left, List.drop_left]
    exact List.take_left
  · rw [if_neg c2, if_neg c2, if_neg c2]
    have t1 := tF_le (ns := ns) (show p ≤ p + siz ns p + 1 by omega)
    have t2 := tF_le (ns := ns) (show p + siz ns p + 1 ≤ ns.length by omega)
    rw [tF_all] at t2
    refine ⟨t1, t2, ?_⟩
    rw [show p + siz ns p + 1 = p + (siz ns p + 1) by omega, flT_mid]
    by_cases k1 : 1 < (nd ns p).1
    · have k3 : (nd ns p).1 = 3 := by
        by_cases g2 : (nd ns p).1 = 2
        · exact absurd (Or.inl g2) c2
        · by_cases g4 : (nd ns p).1 = 4
          · exact absurd (Or.inr g4) c2
          · omega
      rw [siz_0 hc k1]
      exact sv_tx hp k3
    · exact sv_el hp k1
end VAL
