/-! THE CLASS COMPARES -/
section CCP
variable {F A B o : Nat} {σ : St} {ns : List Nd} {b : List Int32} {v w : Vl}
theorem pik_1 {p : Nat} (h : ¬ v.1 = 3) : pikV ns v p = v := if_neg h
theorem pik_tag {p k : Nat} (hk : k = 0 ∨ k = 2) : (pikV ns v p).1 = k ↔ v.1 = k := by
  unfold pikV
  by_cases c : v.1 = 3
  · rw [if_pos c]
    show 1 = k ↔ _
    omega
  · rw [if_neg c]
theorem f76_96_e {p q : Nat} (ho : o < 4) (hF : 5000 ≤ F) (hq : qOk ns b) (hB : bufC σ b) (ht : cTr σ ns) (h : valC σ b A v) (hv : vOK ns (pikV ns v p)) (g : valC σ b B w) (gv : vOK ns (pikV ns w q)) (hp : p < ns.length) (hqn : q < ns.length) : f76_96 F (Int32.ofNat (8 + o)) A (Int32.ofNat p) B (Int32.ofNat q) σ = oI (b2i (cmpN o (nmV ns (pikV ns v p)) (nmV ns (pikV ns w q)))) σ := by
  unfold f76_96
  rw [f73_p hF hq hB ht h hp, cJo, f73_p hF hq hB ht g hqn, cJo, f75_e ho hv.n gv.n, cIo, if_pos (b2i_z _)]
theorem f76_76_e {p q : Nat} (ho : o < 4) (hF : 5000 ≤ F) (hq : qOk ns b) (hB : bufC σ b) (ht : cTr σ ns) (h : valC σ b A v) (hv : vOK ns (pikV ns v p)) (g : valC σ b B w) (gv : vOK ns (pikV ns w q)) (hp : p < ns.length) (hqn : q < ns.length) (h2 : ¬ v.1 = 2) (g2 : ¬ w.1 = 2) (hv3 : v.1 ≤ 3) (hw3 : w.1 ≤ 3) : f76_76 F (Int32.ofNat (8 + o)) A (Int32.ofNat p) B (Int32.ofNat q) (b2i (decide (2 ≤ o))) σ = oI (b2i (cmpV ns o (pikV ns v p) (pikV ns w q))) σ := by
  have k := f76_96_e ho hF hq hB ht h hv g gv hp hqn
  have t1 := pik_tag (ns := ns) (v := v) (p := p) (k := 2) (Or.inr rfl)
  have t2 := pik_tag (ns := ns) (v := w) (p := q) (k := 2) (Or.inr rfl)
  have t3 := pik_tag (ns := ns) (v := v) (p := p) (k := 0) (Or.inl rfl)
  have t4 := pik_tag (ns := ns) (v := w) (p := q) (k := 0) (Or.inl rfl)
  unfold f76_76 cmpV
  by_cases c : 2 ≤ o
  · rw [decide_eq_true c, if_neg (show ¬ b2i true = 0 by decide), if_pos c]
    exact k
  · rw [decide_eq_false c, if_pos b2i_f, if_neg c, if_neg (show ¬ ((pikV ns v p).1 = 2 ∨ (pikV ns w q).1 = 2) by omega), f39_e h, cIo, ifb]
    by_cases c1 : v.1 = 0
    · rw [if_pos (decide_eq_true c1), if_pos (Or.inl (t3.mpr c1))]
      exact k
    · rw [if_neg (by rw [decide_eq_false c1]; decide), f39_e g, cIo, ifb]
      by_cases c2 : w.1 = 0
      · rw [if_pos (decide_eq_true c2), if_pos (Or.inr (t4.mpr c2))]
        exact k
      · rw [if_neg (by rw [decide_eq_false c2]; decide), if_neg (show ¬ ((pikV ns v p).1 = 0 ∨ (pikV ns w q).1 = 0) by omega), f77_e hF hq hB ht h (by omega) g (by omega) hp hqn, cIo]
        generalize decide ((pikV ns v p).2.2.2 = (pikV ns w q).2.2.2) = y
        have hc : o = 0 ∨ o = 1 := by omega
        rcases hc with rfl | rfl <;> cases y <;> rfl
theorem f76_e {p q : Nat} (ho : o < 4) (hF : 5000 ≤ F) (hq : qOk ns b) (hB : bufC σ b) (ht : cTr σ ns) (h : valC σ b A v) (hv : vOK ns v) (g : valC σ b B w) (gv : vOK ns w) (hp : p < ns.length) (hqn : q < ns.length) (hx : ¬ ((v.1 = 2 ∧ w.1 = 3) ∨ (v.1 = 3 ∧ w.1 = 2))) : f76 F (Int32.ofNat (8 + o)) A (Int32.ofNat p) B (Int32.ofNat q) σ = oI (b2i (cmpV ns o (pikV ns v p) (pikV ns w q))) σ := by
  have ok : ∀ {u : Vl} {i : Nat}, vOK ns u → i < ns.length → vOK ns (pikV ns u i) ∧ u.1 ≤ 3 := by
    intro u i hu hi
    refine ⟨?_, by rcases hu with ⟨e, _⟩ | ⟨e, _⟩ | ⟨e, _⟩ | ⟨e, _⟩ <;> omega⟩
    unfold pikV
    by_cases c : u.1 = 3
    · rw [if_pos c]
      have := sv_len hq.1 hq.2.1 hi
      exact vOK.t (sv_okB hq.1 hi) (by omega)
    · rw [if_neg c]
      exact hu
  have k1 := ok hv hp
  have k2 := ok gv hqn
  have t1 := pik_tag (ns := ns) (v := v) (p := p) (k := 2) (Or.inr rfl)
  have t2 := pik_tag (ns := ns) (v := w) (p := q) (k := 2) (Or.inr rfl)
  have bo : ∀ (h2 : v.1 = 2 ∨ w.1 = 2) (hc : o < 2), f76_39 F (Int32.ofNat (8 + o)) A B σ = oI (b2i (cmpV ns o (pikV ns v p) (pikV ns w q))) σ := by
    intro h2 hc
    rw [pik_1 (v := v) (by omega), pik_1 (v := w) (by omega)]
    unfold f76_39 f76_56 cmpV
    rw [f37_e hq.2.2.2 h hv, cIo, f37_e hq.2.2.2 g gv, cIo, if_neg (show ¬ 2 ≤ o by omega), if_pos h2]
    have hc : o = 0 ∨ o = 1 := by omega
    generalize tru v = x
    generalize tru w = y
    rcases hc with rfl | rfl <;> cases x <;> cases y <;> rfl
  have num : ∀ (hc : 2 ≤ o), f76_17 F (Int32.ofNat (8 + o)) A (Int32.ofNat p) B (Int32.ofNat q) 1 σ = oI (b2i (cmpV ns o (pikV ns v p) (pikV ns w q))) σ := by
    intro hc
    have k := f76_96_e ho hF hq hB ht h k1.1 g k2.1 hp hqn
    unfold f76_17 f76_76 cmpV
    rw [if_neg (show ¬ (1 : Int32) = 0 by decide), if_neg (show ¬ (1 : Int32) = 0 by decide), if_pos hc]
    exact k
  have low : ∀ (hc : o < 2), f76_17 F (Int32.ofNat (8 + o)) A (Int32.ofNat p) B (Int32.ofNat q) 0 σ = oI (b2i (cmpV ns o (pikV ns v p) (pikV ns w q))) σ := by
    intro hc
    unfold f76_17
    rw [if_pos rfl, f38_e h, cIo, ifb]
    by_cases c1 : v.1 = 2
    · rw [if_pos (decide_eq_true c1)]
      exact bo (Or.inl c1) hc
    · rw [if_neg (by rw [decide_eq_false c1]; decide), f38_e g, cIo, ifb]
      by_cases c2 : w.1 = 2
      · rw [if_pos (decide_eq_true c2)]
        exact bo (Or.inr c2) hc
      · rw [if_neg (by rw [decide_eq_false c2]; decide)]
        have := f76_76_e ho hF hq hB ht h k1.1 g k2.1 hp hqn c1 c2 k1.2 k2.2
        rw [decide_eq_false (show ¬ 2 ≤ o by omega)] at this
        exact this
  unfold f76 f76_12
  rcases oc4 ho with rfl | rfl | rfl | rfl
  · rw [if_neg (by decide), if_neg (by decide)]
    exact low (by decide)
  · rw [if_neg (by decide), if_neg (by decide)]
    exact low (by decide)
  · rw [if_pos (by decide)]
    exact num (by decide)
  · rw [if_neg (by decide), if_pos (by decide)]
    exact num (by decide)
/-- the two loops of compares -/
theorem f74_105_e (ho : o < 4) (hF : 5000 ≤ F) (hq : qOk ns b) (hB : bufC σ b) (ht : cTr σ ns) (h : valC σ b A v) (hv : vOK ns v) (g : valC σ b B w) (gv : vOK ns w) (hx : ¬ ((v.1 = 2 ∧ w.1 = 3) ∨ (v.1 = 3 ∧ w.1 = 2))) (x y : Int32) (hxb : ∀ i, i < ns.length → bt x i = memV v i) (hyb : ∀ i, i < ns.length → bt y i = memV w i) : f74_105 F F (Int32.ofNat (8 + o)) A B x y 0 σ = oI (b2i (anyF (fun p => memV v p && anyF (fun q => memV w q && cmpV ns o (pikV ns v p) (pikV ns w q)) 0 ns.length) 0 ns.length)) σ := by
  have hn := hq.2.1.1.1
  have inner : ∀ (k105 : Int32 → Nat → Nat → Int32 → Int32 → Int32 → St → Rs) (p : Nat) (rest : Bool), p < ns.length → memV v p = true → k105 (Int32.ofNat (8 + o)) A B x y (Int32.ofNat (p + 1)) σ = oI (b2i rest) σ → ∀ (m k q : Nat), q + m = ns.length → f74_120 F k105 (k + m + 1) (Int32.ofNat (8 + o)) A B x y (Int32.ofNat p) (Int32.ofNat q) σ = oI (b2i (anyF (fun q => memV w q && cmpV ns o (pikV ns v p) (pikV ns w q)) q m || rest)) σ := by
    intro k105 p rest hp hm hk m
    induction m with
    | zero =>
      intro k q hqq
      rw [f74_120.eq_2, ltE, ht.1.1, if_neg (fun g => by have := (oN_lt (by omega) (by omega)).mp g; omega)]
      unfold f74_174
      rw [oN_p1]
      exact hk
    | succ m ih =>
      intro k q hqq
      have i2 := ih k (q + 1) (by omega)
      rw [show k + (m + 1) + 1 = (k + m + 1) + 1 by omega, f74_120.eq_2, ltE, ht.1.1, if_pos ((oN_lt (by omega) (by omega)).mpr (by omega)), f31_e (by omega), cIo, hxb p hp, hm, if_neg (show ¬ b2i true = 0 by decide), f31_e (by omega), cIo, hyb q (by omega)]
      unfold anyF f74_168
      rw [oN_p1]
      cases hc : memV w q with
      | false =>
        rw [if_pos b2i_f, Bool.false_and, Bool.false_or]
        exact i2
      | true =>
        rw [if_neg (show ¬ b2i true = 0 by decide), f76_e ho hF hq hB ht h hv g gv hp (by omega) hx, cIo, ifb, Bool.true_and]
        cases hd : cmpV ns o (pikV ns v p) (pikV ns w q) with
        | true =>
          rw [if_pos rfl]
          rfl
        | false =>
          rw [if_neg (by decide), Bool.false_or]
          exact i2
  have outer : ∀ (m k p : Nat), p + m = ns.length → f74_105 F (k + m + 1) (Int32.ofNat (8 + o)) A B x y (Int32.ofNat p) σ = oI (b2i (anyF (fun p => memV v p && anyF (fun q => memV w q && cmpV ns o (pikV ns v p) (pikV ns w q)) 0 ns.length) p m)) σ := by
    intro m
    induction m with
    | zero =>
      intro k p hp
      rw [f74_105.eq_2, ltE, ht.1.1, if_neg (fun g => by have := (oN_lt (by omega) (by omega)).mp g; omega)]
      rfl
    | succ m ih =>
      intro k p hp
      have i2 := ih k (p + 1) (by omega)
      rw [show k + (m + 1) + 1 = (k + m + 1) + 1 by omega, f74_105.eq_2, ltE, ht.1.1, if_pos ((oN_lt (by omega) (by omega)).mpr (by omega))]
      unfold anyF
      cases hc : memV v p with
      | true =>
        have i3 := inner (f74_105 F (k + m + 1)) p _ (by omega) hc i2 ns.length (F - ns.length - 1) 0 (by omega)
        rw [show F - ns.length - 1 + ns.length + 1 = F by omega] at i3
        rw [Bool.true_and]
        exact i3
      | false =>
        have a1 : ∀ G, G = (F - 1) + 1 → f74_120 F (f74_105 F (k + m + 1)) G (Int32.ofNat (8 + o)) A B x y (Int32.ofNat p) 0 σ = oI (b2i (false || anyF (fun p => memV v p && anyF (fun q => memV w q && cmpV ns o (pikV ns v p) (pikV ns w q)) 0 ns.length) (p + 1) m)) σ := by
          intro G hG
          rw [hG, f74_120.eq_2, ltE, ht.1.1, if_pos (show (0 : Int32) < Int32.ofNat ns.length from (oN_lt (p := 0) (by omega) (by omega)).mpr (by omega)), f31_e (by omega), cIo, hxb p (by omega), hc, if_pos b2i_f]
          unfold f74_174
          rw [oN_p1, Bool.false_or]
          exact i2
        rw [Bool.false_and]
        exact a1 F (by omega)
  have := outer ns.length (F - ns.length - 1) 0 (by omega)
  rw [show F - ns.length - 1 + ns.length + 1 = F by omega] at this
  exact this
theorem bt_1 : ∀ j, j < 32 → bt 1 j = decide (j = 0) := by decide +kernel
theorem mix_b {x y : Bool} (ho : o < 4) : cmpV ns o (vB x) (vB y) = cmpN o (some (if x = true then 1 else 0)) (some (if y = true then 1 else 0)) := by
  rcases oc4 ho with rfl | rfl | rfl | rfl <;> cases x <;> cases y <;> rfl
theorem f74_e (ho : o < 4) (hF : 5000 ≤ F) (hq : qOk ns b) (hB : bufC σ b) (ht : cTr σ ns) (h : valC σ b A v) (hv : vOK ns v) (g : valC σ b B w) (gv : vOK ns w) : f74 F (Int32.ofNat (8 + o)) A B σ = oI (b2i (cmpS ns o v w)) σ := by
  have hn := hq.2.1.1.1
  have set9 : ∀ {C : Nat} {u : Vl}, valC σ b C u → u.1 = 3 → σ.1 C 9 = u.2.2.1 := by
    intro C u hu hc
    obtain ⟨s, h0, h1, h2⟩ := hu
    rcases h2 with ⟨g, e, k⟩ | ⟨g, e, k⟩ | ⟨g, e, k⟩ | ⟨g, e, k⟩
    · omega
    · omega
    · exact k
    · omega
  have mix : ((v.1 = 2 ∧ w.1 = 3) ∨ (v.1 = 3 ∧ w.1 = 2)) → f74_38 F (Int32.ofNat (8 + o)) A B σ = oI (b2i (cmpS ns o v w)) σ := by
    intro hx
    have n0 : nOk (some 0) := fun u hu => by injection hu with hu; omega
    have n1 : nOk (some 1) := fun u hu => by injection hu with hu; omega
    have i0 : (0 : Int64) = eC (some 0) := rfl
    have i1 : (1 : Int64) = eC (some 1) := rfl
    unfold f74_38 f74_52 cmpS
    rw [if_pos hx, mix_b ho, f37_e hq.2.2.2 h hv, cIo, ifb, f37_e hq.2.2.2 g gv]
    cases tru v <;> cases tru w
    · rw [if_neg (by decide), cIo, if_pos b2i_f, i0, f75_e ho n0 n0, cIo, if_pos (b2i_z _)]
      rfl
    · rw [if_neg (by decide), cIo, if_neg (show ¬ b2i true = 0 by decide), i0, i1, f75_e ho n0 n1, cIo, if_pos (b2i_z _)]
      rfl
    · rw [if_pos rfl, cIo, if_pos b2i_f, i0, i1, f75_e ho n1 n0, cIo, if_pos (b2i_z _)]
      rfl
    · rw [if_pos rfl, cIo, if_neg (show ¬ b2i true = 0 by decide), i1, f75_e ho n1 n1, cIo, if_pos (b2i_z _)]
      rfl
  have non : ¬ ((v.1 = 2 ∧ w.1 = 3) ∨ (v.1 = 3 ∧ w.1 = 2)) → f74_68 F (Int32.ofNat (8 + o)) A B σ = oI (b2i (cmpS ns o v w)) σ := by
    intro hx
    have m1 : ∀ {u : Vl}, ¬ u.1 = 3 → ∀ i, i < ns.length → bt 1 i = memV u i := by
      intro u hu i hi
      unfold memV
      rw [if_neg hu, bt_1 i (by omega)]
    have m3 : ∀ {u : Vl}, u.1 = 3 → ∀ i, i < ns.length → bt u.2.2.1 i = memV u i := by
      intro u hu i hi
      unfold memV
      rw [if_pos hu]
    unfold f74_68 f74_83 f74_100 cmpS
    rw [if_neg hx, f36_e h, cIo, ifb]
    by_cases c1 : v.1 = 3
    · rw [if_pos (decide_eq_true c1), ltE, set9 h c1, f36_e g, cIo, ifb]
      by_cases c2 : w.1 = 3
      · rw [if_pos (decide_eq_true c2), ltE, set9 g c2]
        exact f74_105_e ho hF hq hB ht h hv g gv hx _ _ (m3 c1) (m3 c2)
      · rw [if_neg (by rw [decide_eq_false c2]; decide)]
        exact f74_105_e ho hF hq hB ht h hv g gv hx _ _ (m3 c1) (m1 c2)
    · rw [if_neg (by rw [decide_eq_false c1]; decide), f36_e g, cIo, ifb]
      by_cases c2 : w.1 = 3
      · rw [if_pos (decide_eq_true c2), ltE, set9 g c2]
        exact f74_105_e ho hF hq hB ht h hv g gv hx _ _ (m1 c1) (m3 c2)
      · rw [if_neg (by rw [decide_eq_false c2]; decide)]
        exact f74_105_e ho hF hq hB ht h hv g gv hx _ _ (m1 c1) (m1 c2)
  have f24 : ¬ (v.1 = 2 ∧ w.1 = 3) → f74_24 F (Int32.ofNat (8 + o)) A B σ = oI (b2i (cmpS ns o v w)) σ := by
    intro hx
    unfold f74_24
    rw [f36_e h, cIo, ifb]
    by_cases c1 : v.1 = 3
    · rw [if_pos (decide_eq_true c1), f38_e g, cIo, ifb]
      by_cases c2 : w.1 = 2
      · rw [if_pos (decide_eq_true c2)]
        exact mix (Or.inr ⟨c1, c2⟩)
      · rw [if_neg (by rw [decide_eq_false c2]; decide)]
        exact non (by omega)
    · rw [if_neg (by rw [decide_eq_false c1]; decide)]
      exact non (by omega)
  unfold f74
  rw [f38_e h, cIo, ifb]
  by_cases c1 : v.1 = 2
  · rw [if_pos (decide_eq_true c1), f36_e g, cIo, ifb]
    by_cases c2 : w.1 = 3
    · rw [if_pos (decide_eq_true c2)]
      exact mix (Or.inl ⟨c1, c2⟩)
    · rw [if_neg (by rw [decide_eq_false c2]; decide)]
      exact f24 (by omega)
  · rw [if_neg (by rw [decide_eq_false c1]; decide)]
    exact f24 (by omega)
end CCP
