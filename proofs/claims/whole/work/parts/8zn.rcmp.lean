/-! THE REFERENCE COMPARES, and runs its ops -/
section RCM
variable {F np nst npr nop o : Nat} {b : List Int32} {ns : List Nd} {T : Tb} {σ : St} {v w : Vl} {ty uy : Int32} {x y : Int64}
theorem vM.pik {i : Nat} (h : vM ns b T nop ty x v) (hi : i < ns.length) (hn : ns.length ≤ 30) : vM ns b T nop (if ty = 3 then 1 else ty) (if ty = 3 then (Int32.ofNat i).toInt64 else x) (pikV ns v i) := by
  have ht := h.tg
  have t3 : ty = 3 ↔ v.1 = 3 := by rw [ht.2]; exact oN_eq (q := 3) (by omega) (by decide)
  unfold pikV
  by_cases c : v.1 = 3
  · rw [if_pos (t3.mpr c), if_pos (t3.mpr c), if_pos c]
    exact Or.inr (Or.inl ⟨rfl, rfl, Or.inl ⟨i, hi, (cN i (by omega)).2.2, rfl⟩⟩)
  · rw [if_neg (fun q => c (t3.mp q)), if_neg (fun q => c (t3.mp q)), if_neg c]
    exact h
theorem vOK.pik {i : Nat} (hq : qOk ns b) (hv : vOK ns v) (hi : i < ns.length) : vOK ns (pikV ns v i) ∧ ¬ (pikV ns v i).1 = 3 := by
  unfold pikV
  by_cases c : v.1 = 3
  · rw [if_pos c]
    have := sv_len hq.1 hq.2.1 hi
    exact ⟨vOK.t (sv_okB hq.1 hi) (by omega), by show ¬ 1 = 3; omega⟩
  · rw [if_neg c]
    exact ⟨hv, c⟩
theorem mem_e {i : Nat} (h : vM ns b T nop ty x v) (hi : i < 32) {A B : Rs} : (if ty = 3 then (if lg_cmp ((x >>> ((Int32.ofNat i).toInt64 &&& 63)) &&& 1) 1 = 0 then A else B) else if Int32.ofNat i = 0 then A else B) = if memV v i = true then A else B := by
  have ht := h.tg
  have t3 : ty = 3 ↔ v.1 = 3 := by rw [ht.2]; exact oN_eq (q := 3) (by omega) (by decide)
  unfold memV
  by_cases c : v.1 = 3
  · have hx : x = v.2.2.1.toInt64 := by
      rcases h with ⟨q, _⟩ | ⟨q, _⟩ | ⟨q, _⟩ | ⟨_, _, q⟩
      · omega
      · omega
      · omega
      · exact q
    rw [if_pos (t3.mpr c), if_pos c, hx]
    by_cases g : bt v.2.2.1 i = true
    · rw [if_pos ((bt_64 hi).mpr g), if_pos g]
    · rw [if_neg (fun q => g ((bt_64 hi).mp q)), if_neg g]
  · rw [if_neg (fun q => c (t3.mp q)), if_neg c]
    by_cases g : i = 0
    · rw [if_pos (by rw [g]; rfl), if_pos (decide_eq_true g)]
    · rw [if_neg (fun q => g ((oE0 (by omega)).mp q)), if_neg (by rw [decide_eq_false g]; decide)]
theorem f243_93_e (ho : o < 4) (hF : 15000 ≤ F) (hq : qOk ns b) (hR : eR b ns σ T np nst npr nop) (hn : nop ≤ 121) (h : vM ns b T nop ty x v) (hv : vOK ns v) (g : vM ns b T nop uy y w) (hw : vOK ns w) : f243_93 F F (Int32.ofNat (9 + o)) ty x uy y 0 0 σ = oI (b2i (anyF (fun p => memV v p && anyF (fun q => memV w q && cmpV ns o (pikV ns v p) (pikV ns w q)) 0 ns.length) 0 ns.length)) σ := by
  have hns := hq.2.1.1.1
  have ht := h.tg
  have gt := g.tg
  have cnt : σ.1 1315 3 = Int32.ofNat ns.length := hR.2.1.1
  -- one pair
  have pair : ∀ (k93 : Int32 → Int32 → Int64 → Int32 → Int64 → Int32 → Int32 → St → Rs) (k141 : Int32 → Int32 → Int64 → Int32 → Int64 → Int32 → Int32 → Int32 → Int32 → St → Rs) (p q : Nat) (any : Bool), p < ns.length → q < ns.length → (if uy = 3 then (if lg_cmp ((y >>> ((Int32.ofNat q).toInt64 &&& 63)) &&& 1) 1 = 0 then f243_191 F k93 k141 (Int32.ofNat (9 + o)) ty x uy y (b2i any) (Int32.ofNat p) 1 (Int32.ofNat q) 1 σ else f243_191 F k93 k141 (Int32.ofNat (9 + o)) ty x uy y (b2i any) (Int32.ofNat p) 1 (Int32.ofNat q) 0 σ) else if Int32.ofNat q = 0 then f243_191 F k93 k141 (Int32.ofNat (9 + o)) ty x uy y (b2i any) (Int32.ofNat p) 1 (Int32.ofNat q) 1 σ else f243_191 F k93 k141 (Int32.ofNat (9 + o)) ty x uy y (b2i any) (Int32.ofNat p) 1 (Int32.ofNat q) 0 σ) = k141 (Int32.ofNat (9 + o)) ty x uy y (b2i (any || (memV w q && cmpV ns o (pikV ns v p) (pikV ns w q)))) (Int32.ofNat p) 1 (Int32.ofNat (q + 1)) σ := by
    intro k93 k141 p q any hp hqn
    rw [mem_e g (by omega)]
    have one : f243_191 F k93 k141 (Int32.ofNat (9 + o)) ty x uy y (b2i any) (Int32.ofNat p) 1 (Int32.ofNat q) 1 σ = k141 (Int32.ofNat (9 + o)) ty x uy y (b2i (any || cmpV ns o (pikV ns v p) (pikV ns w q))) (Int32.ofNat p) 1 (Int32.ofNat (q + 1)) σ := by
      unfold f243_191
      cases any with
      | true =>
        rw [if_neg (show ¬ b2i true = 0 by decide)]
        unfold f243_259 f243_264
        rw [oN_p1]
        rfl
      | false =>
        have pv := h.pik hp hns
        have pw := g.pik hqn hns
        have k := f244_e ho hF hq hR hn pv (hv.pik hq hp).1 pw (hw.pik hq hqn).1 (hv.pik hq hp).2 (hw.pik hq hqn).2
        rw [if_pos b2i_f, if_neg (show ¬ (1 : Int32) = 0 by decide), Bool.false_or]
        have fin : ∀ (a : Int32) (c : Int64) (e : Int32) (f : Int64), a = (if ty = 3 then 1 else ty) → c = (if ty = 3 then (Int32.ofNat p).toInt64 else x) → e = (if uy = 3 then 1 else uy) → f = (if uy = 3 then (Int32.ofNat q).toInt64 else y) → f243_253 F k93 k141 (Int32.ofNat (9 + o)) ty x uy y (Int32.ofNat p) 1 (Int32.ofNat q) (Int32.ofNat (9 + o)) a c e f σ = k141 (Int32.ofNat (9 + o)) ty x uy y (b2i (cmpV ns o (pikV ns v p) (pikV ns w q))) (Int32.ofNat p) 1 (Int32.ofNat (q + 1)) σ := by
          intro a c e f ha hc he hf
          unfold f243_253
          rw [ha, hc, he, hf, k, cIo, ifb]
          unfold f243_259 f243_263 f243_264
          rw [oN_p1]
          cases cmpV ns o (pikV ns v p) (pikV ns w q) <;> rfl
        unfold f243_215 f243_227 f243_239
        by_cases c1 : ty = 3
        · rw [if_pos c1, if_pos c1]
          by_cases c2 : uy = 3
          · rw [if_pos c2, if_pos c2]
            exact fin _ _ _ _ (if_pos c1).symm (if_pos c1).symm (if_pos c2).symm (if_pos c2).symm
          · rw [if_neg c2, if_neg c2]
            exact fin _ _ _ _ (if_pos c1).symm (if_pos c1).symm (if_neg c2).symm (if_neg c2).symm
        · rw [if_neg c1, if_neg c1]
          by_cases c2 : uy = 3
          · rw [if_pos c2, if_pos c2]
            exact fin _ _ _ _ (if_neg c1).symm (if_neg c1).symm (if_pos c2).symm (if_pos c2).symm
          · rw [if_neg c2, if_neg c2]
            exact fin _ _ _ _ (if_neg c1).symm (if_neg c1).symm (if_neg c2).symm (if_neg c2).symm
    have zer : f243_191 F k93 k141 (Int32.ofNat (9 + o)) ty x uy y (b2i any) (Int32.ofNat p) 1 (Int32.ofNat q) 0 σ = k141 (Int32.ofNat (9 + o)) ty x uy y (b2i any) (Int32.ofNat p) 1 (Int32.ofNat (q + 1)) σ := by
      unfold f243_191
      cases any with
      | true =>
        rw [if_neg (show ¬ b2i true = 0 by decide)]
        unfold f243_259 f243_264
        rw [oN_p1]
        rfl
      | false =>
        rw [if_pos b2i_f, if_pos rfl]
        unfold f243_263 f243_264
        rw [oN_p1]
        rfl
    cases hm : memV w q with
    | true =>
      rw [if_pos rfl, one, Bool.true_and]
    | false =>
      rw [if_neg (by decide), zer, Bool.false_and, Bool.or_false]
  have inner : ∀ (k93 : Int32 → Int32 → Int64 → Int32 → Int64 → Int32 → Int32 → St → Rs) (p : Nat), p < ns.length → ∀ (m k q : Nat) (any : Bool), q + m = ns.length → f243_141 F k93 (k + m + 1) (Int32.ofNat (9 + o)) ty x uy y (b2i any) (Int32.ofNat p) 1 (Int32.ofNat q) σ = k93 (Int32.ofNat (9 + o)) ty x uy y (b2i (any || anyF (fun q => memV w q && cmpV ns o (pikV ns v p) (pikV ns w q)) q m)) (Int32.ofNat (p + 1)) σ := by
    intro k93 p hp m
    induction m with
    | zero =>
      intro k q any hqq
      rw [f243_141.eq_2, ltE, cnt, if_neg (fun g => by have := (oN_lt (by omega) (by omega)).mp g; omega)]
      unfold f243_272 anyF
      rw [oN_p1, Bool.or_false]
    | succ m ih =>
      intro k q any hqq
      rw [show k + (m + 1) + 1 = (k + m + 1) + 1 by omega, f243_141.eq_2, ltE, cnt, if_pos ((oN_lt (by omega) (by omega)).mpr (by omega)), if_neg (show ¬ (1 : Int32) = 0 by decide), pair k93 (f243_141 F k93 (k + m + 1)) p q any hp (by omega), ih k (q + 1) _ (by omega), Bool.or_assoc]
      rfl
  have outer : ∀ (m k p : Nat) (any : Bool), p + m = ns.length → f243_93 F (k + m + 1) (Int32.ofNat (9 + o)) ty x uy y (b2i any) (Int32.ofNat p) σ = oI (b2i (any || anyF (fun p => memV v p && anyF (fun q => memV w q && cmpV ns o (pikV ns v p) (pikV ns w q)) 0 ns.length) p m)) σ := by
    intro m
    induction m with
    | zero =>
      intro k p any hp
      rw [f243_93.eq_2, ltE, cnt, if_neg (fun g => by have := (oN_lt (by omega) (by omega)).mp g; omega), if_pos (b2i_z _)]
      unfold anyF
      rw [Bool.or_false]
    | succ m ih =>
      intro k p any hp
      rw [show k + (m + 1) + 1 = (k + m + 1) + 1 by omega, f243_93.eq_2, ltE, cnt, if_pos ((oN_lt (by omega) (by omega)).mpr (by omega)), mem_e h (by omega)]
      unfold f243_136
      rw [show anyF (fun p => memV v p && anyF (fun q => memV w q && cmpV ns o (pikV ns v p) (pikV ns w q)) 0 ns.length) p (m + 1) = (memV v p && anyF (fun q => memV w q && cmpV ns o (pikV ns v p) (pikV ns w q)) 0 ns.length || anyF (fun p => memV v p && anyF (fun q => memV w q && cmpV ns o (pikV ns v p) (pikV ns w q)) 0 ns.length) (p + 1) m) from rfl]
      cases hm : memV v p with
      | true =>
        have i2 := inner (f243_93 F (k + m + 1)) p (by omega) ns.length (F - ns.length - 1) 0 any (by omega)
        rw [show F - ns.length - 1 + ns.length + 1 = F by omega] at i2
        rw [if_pos rfl, Bool.true_and, ← Bool.or_assoc]
        refine Eq.trans i2 ?_
        exact ih k (p + 1) _ (by omega)
      | false =>
        rw [if_neg (by decide), Bool.false_and, Bool.false_or]
        have a1 : ∀ G, G = (F - 1) + 1 → f243_141 F (f243_93 F (k + m + 1)) G (Int32.ofNat (9 + o)) ty x uy y (b2i any) (Int32.ofNat p) 0 0 σ = f243_93 F (k + m + 1) (Int32.ofNat (9 + o)) ty x uy y (b2i any) (Int32.ofNat (p + 1)) σ := by
          intro G hG
          rw [hG, f243_141.eq_2, ltE, cnt, if_pos (show (0 : Int32) < Int32.ofNat ns.length from (oN_lt (p := 0) (by omega) (by omega)).mpr (by omega)), if_pos rfl]
          unfold f243_272
          rw [oN_p1]
        rw [a1 F (by omega)]
        exact ih k (p + 1) any (by omega)
  have := outer ns.length (F - ns.length - 1) 0 false (by omega)
  rw [show F - ns.length - 1 + ns.length + 1 = F by omega, Bool.false_or] at this
  exact this
theorem vM.bl {z : Bool} : vM ns b T nop 2 (if z = true then 1 else 0) (vB z) := Or.inr (Or.inr (Or.inl ⟨rfl, rfl, by cases z <;> rfl⟩))
theorem vB_t {z : Bool} : tru (vB z) = z := by cases z <;> rfl
theorem f243_e (ho : o < 4) (hF : 15000 ≤ F) (hq : qOk ns b) (hR : eR b ns σ T np nst npr nop) (hn : nop ≤ 121) (h : vM ns b T nop ty x v) (hv : vOK ns v) (g : vM ns b T nop uy y w) (hw : vOK ns w) : f243 F (Int32.ofNat (9 + o)) ty x uy y σ = oI (b2i (cmpS ns o v w)) σ := by
  have ht := h.tg
  have gt := g.tg
  have t3 : ty = 3 ↔ v.1 = 3 := by rw [ht.2]; exact oN_eq (q := 3) (by omega) (by decide)
  have u3 : uy = 3 ↔ w.1 = 3 := by rw [gt.2]; exact oN_eq (q := 3) (by omega) (by decide)
  have t2 : ty = 2 ↔ v.1 = 2 := by rw [ht.2]; exact oN_eq (q := 2) (by omega) (by decide)
  have u2 : uy = 2 ↔ w.1 = 2 := by rw [gt.2]; exact oN_eq (q := 2) (by omega) (by decide)
  have bv : ∀ {a : Vl} {z : Int64} {tz : Int32}, vM ns b T nop tz z a → vOK ns a → a.1 = 2 → z = (if tru a = true then 1 else 0) := by
    intro a z tz ha hoa h2
    rcases ha with ⟨q, _⟩ | ⟨q, _⟩ | ⟨_, _, q⟩ | ⟨q, _⟩
    · omega
    · omega
    · rw [q]
      unfold tru
      rw [if_neg (show ¬ a.1 = 3 by omega), if_neg (show ¬ a.1 = 1 by omega)]
      rcases hoa with ⟨r, _⟩ | ⟨r, _⟩ | ⟨_, r⟩ | ⟨r, _⟩
      · omega
      · omega
      · rcases r with r | r <;> rw [r] <;> rfl
      · omega
    · omega
  have sv0 : ∀ {a : Vl} {z : Int64} {tz : Int32}, vM ns b T nop tz z a → a.1 = 3 → (lg_cmp z 0 = 0 ↔ ¬ tru a = true) := by
    intro a z tz ha h3
    rcases ha with ⟨q, _⟩ | ⟨q, _⟩ | ⟨q, _⟩ | ⟨_, _, q⟩
    · omega
    · omega
    · omega
    · rw [q, lg_eq, s64_0]
      unfold tru
      rw [if_pos h3]
      simp
  have mix : ∀ (z1 z2 : Bool), (cI (f244 F (Int32.ofNat (9 + o)) 2 (if z1 = true then 1 else 0) 2 (if z2 = true then 1 else 0) σ) fun c2 σ1 => if c2 = 0 ∨ c2 = 1 then oI c2 σ1 else none) = oI (b2i (cmpV ns o (vB z1) (vB z2))) σ := by
    intro z1 z2
    rw [f244_e ho hF hq hR hn vM.bl vOK.b vM.bl vOK.b (by show ¬ 2 = 3; omega) (by show ¬ 2 = 3; omega), cIo, if_pos (b2i_z _)]
  have non : ¬ ((v.1 = 2 ∧ w.1 = 3) ∨ (v.1 = 3 ∧ w.1 = 2)) → f243_64 F (Int32.ofNat (9 + o)) ty x uy y σ = oI (b2i (cmpS ns o v w)) σ := by
    intro hx
    unfold f243_64 f243_87
    by_cases c1 : v.1 = 3
    · rw [if_pos (t3.mpr c1), f243_93_e ho hF hq hR hn h hv g hw]
      unfold cmpS
      rw [if_neg hx]
    · rw [if_neg (fun q => c1 (t3.mp q))]
      by_cases c2 : w.1 = 3
      · rw [if_pos (u3.mpr c2), f243_93_e ho hF hq hR hn h hv g hw]
        unfold cmpS
        rw [if_neg hx]
      · rw [if_neg (fun q => c2 (u3.mp q)), f244_e ho hF hq hR hn h hv g hw c1 c2, cIo, if_pos (b2i_z _), cmpS_n hq.1.1 c1 c2]
  unfold f243
  by_cases c1 : v.1 = 3
  · rw [if_pos (t3.mpr c1)]
    by_cases c2 : w.1 = 2
    · rw [if_pos (u2.mpr c2)]
      have e : cmpS ns o v w = cmpV ns o (vB (tru v)) (vB (tru w)) := by
        unfold cmpS
        rw [if_pos (Or.inr ⟨c1, c2⟩)]
      rw [e, bv g hw c2]
      have s := sv0 h c1
      cases hz : tru v with
      | true =>
        rw [if_neg (fun q => (s.mp q) hz)]
        exact mix true (tru w)
      | false =>
        rw [if_pos (s.mpr (by rw [hz]; decide))]
        exact mix false (tru w)
    · rw [if_neg (fun q => c2 (u2.mp q))]
      unfold f243_32
      rw [if_neg (fun q => by have := t2.mp q; omega)]
      exact non (by omega)
  · rw [if_neg (fun q => c1 (t3.mp q))]
    unfold f243_32
    by_cases c2 : v.1 = 2
    · rw [if_pos (t2.mpr c2)]
      by_cases c3 : w.1 = 3
      · rw [if_pos (u3.mpr c3)]
        have e : cmpS ns o v w = cmpV ns o (vB (tru v)) (vB (tru w)) := by
          unfold cmpS
          rw [if_pos (Or.inl ⟨c2, c3⟩)]
        rw [e, bv h hv c2]
        have s := sv0 g c3
        cases hz : tru w with
        | true =>
          rw [if_neg (fun q => (s.mp q) hz)]
          exact mix (tru v) true
        | false =>
          rw [if_pos (s.mpr (by rw [hz]; decide))]
          exact mix (tru v) false
      · rw [if_neg (fun q => c3 (u3.mp q))]
        exact non (by omega)
    · rw [if_neg (fun q => c2 (t2.mp q))]
      exact non (by omega)
end RCM
