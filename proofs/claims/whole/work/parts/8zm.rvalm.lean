/-! VALUES ON THE REFERENCE'S STACK -/
def eR (b : List Int32) (ns : List Nd) (σ : St) (T : Tb) (np nst npr nop : Nat) : Prop := bufM σ b ∧ mTr σ ns ∧ tbM σ T np nst npr nop ∧ (σ.1 1315 38 = Int32.ofNat nst ∧ σ.1 1315 44 = Int32.ofNat npr ∧ σ.1 1315 46 = Int32.ofNat nop)
def txM (ns : List Nd) (b : List Int32) (T : Tb) (nop : Nat) (x : Int64) (s : List Int32) : Prop := (∃ p : Nat, p < ns.length ∧ x = Int64.ofInt (p : Int) ∧ s = sv ns p) ∨ (∃ o : Nat, o < nop ∧ x = Int64.ofInt (-1 - (o : Int)) ∧ s = stre b (T.2.2.2 o).2.2.1 (T.2.2.2 o).2.2.2 ∧ (T.2.2.2 o).2.2.1 + (T.2.2.2 o).2.2.2 ≤ b.length)
def vM (ns : List Nd) (b : List Int32) (T : Tb) (nop : Nat) (ty : Int32) (x : Int64) (v : Vl) : Prop := (v.1 = 0 ∧ ty = 0 ∧ x = eM v.2.1) ∨ (v.1 = 1 ∧ ty = 1 ∧ txM ns b T nop x v.2.2.2) ∨ (v.1 = 2 ∧ ty = 2 ∧ x = eM v.2.1) ∨ (v.1 = 3 ∧ ty = 3 ∧ x = v.2.2.1.toInt64)
theorem cN : ∀ p, p < 32 → (Int64.ofInt ((p : Nat) : Int)).toInt32 = Int32.ofNat p ∧ ¬ lg_cmp (Int64.ofInt ((p : Nat) : Int)) 0 < 0 ∧ (Int32.ofNat p).toInt64 = Int64.ofInt ((p : Nat) : Int) := by decide +kernel
theorem cL : ∀ o, o < 130 → lg_cmp (Int64.ofInt (-1 - ((o : Nat) : Int))) 0 < 0 ∧ ((-1) - Int64.ofInt (-1 - ((o : Nat) : Int)) : Int64).toInt32 = Int32.ofNat o ∧ (-1 : Int64) - (Int32.ofNat o).toInt64 = Int64.ofInt (-1 - ((o : Nat) : Int)) := by decide +kernel
theorem eM_0 {o : Option Int} (h : nOk o) : eM o = 0 ↔ o = some 0 := by
  cases o with
  | none => exact ⟨fun e => absurd e (by decide), fun e => by cases e⟩
  | some v =>
    have h1 := h v rfl
    have e0 : (0 : Int64) = Int64.ofInt 0 := rfl
    show Int64.ofInt v = 0 ↔ _
    rw [e0, i64_eq h1 (by omega)]
    exact ⟨fun e => by rw [e], fun e => by injection e⟩
theorem s64_0 {y : Int32} : y.toInt64 = 0 ↔ y = 0 := by
  constructor
  · intro h
    have h2 := congrArg Int64.toInt h
    rw [Int32.toInt_toInt64] at h2
    have h3 : (0 : Int64).toInt = 0 := by decide
    rw [h3] at h2
    exact Int32.toInt_inj.mp (by rw [h2]; rfl)
  · intro h
    rw [h]
    rfl
theorem s64_32 {y : Int32} : y.toInt64.toInt32 = y := by simp
theorem bv_and1_64 (z : BitVec 64) : z &&& 1#64 = 1#64 ↔ z.getLsbD 0 = true := by
  constructor
  · intro h
    have h2 := congrArg (fun y => y.getLsbD 0) h
    simpa using h2
  · intro h
    apply BitVec.eq_of_getLsbD_eq
    intro i hi
    by_cases c : i = 0
    · rw [c]
      simp [h]
    · simp [c]
theorem amt_64 : ∀ j, j < 32 → (((Int32.ofNat j).toInt64 &&& 63 : Int64).toBitVec.smod 64).toNat = j := by decide +kernel
theorem bt_64 {x : Int32} {j : Nat} (hj : j < 32) : lg_cmp ((x.toInt64 >>> ((Int32.ofNat j).toInt64 &&& 63)) &&& 1) 1 = 0 ↔ bt x j = true := by
  rw [lg_eq]
  have e1 : ∀ y : Int64, y &&& 1 = 1 ↔ y.toBitVec.getLsbD 0 = true := by
    intro y
    rw [← bv_and1_64, ← Int64.toBitVec_inj, Int64.toBitVec_and]
    rfl
  rw [e1]
  unfold bt
  have e : (x.toInt64 >>> ((Int32.ofNat j).toInt64 &&& 63 : Int64)).toBitVec = x.toInt64.toBitVec.sshiftRight' (((Int32.ofNat j).toInt64 &&& 63 : Int64).toBitVec.smod 64) := rfl
  have e2 : x.toInt64.toBitVec = x.toBitVec.signExtend 64 := rfl
  rw [e, BitVec.sshiftRight_eq', amt_64 j hj, BitVec.getLsbD_sshiftRight, e2, BitVec.getLsbD_signExtend]
  simp [hj, show j < 64 by omega]
section RVM
variable {F np nst npr nop o : Nat} {b : List Int32} {ns : List Nd} {T : Tb} {σ : St} {v w : Vl} {ty uy : Int32} {x y : Int64} {s s2 : List Int32}
theorem txM.st (hF : 500 ≤ F) (hq : qOk ns b) (hR : eR b ns σ T np nst npr nop) (hn : nop ≤ 121) (h : txM ns b T nop x s) : txS F σ x s ∧ okB s ∧ s.length ≤ 5000 := by
  have hns := hq.2.1.1.1
  rcases h with ⟨p, h1, h2, h3⟩ | ⟨k, h1, h2, h3, h4⟩
  · subst h2 h3
    have hl := sv_len hq.1 hq.2.1 h1
    refine ⟨fun j hj => ?_, sv_okB hq.1 h1, by omega⟩
    have c := cN p (by omega)
    unfold f238
    rw [if_neg c.2.1, c.1, f196_e hF hR.2.1 hq.2.1.1 h1 (by omega), cIo]
  · subst h2 h3
    have t := hR.2.2.1.2.2.2 k h1
    have hb := hq.2.2.2
    refine ⟨fun j hj => ?_, okB_stre hq.2.2.1, by rw [stre_len h4]; omega⟩
    have c := cL k (by omega)
    have i1 : inB (Int32.ofNat k) 130 := oN_rg (by omega) (by decide)
    have n1 := oN_n (show k < 2147483648 by omega)
    unfold f238
    rw [if_pos c.1, c.2.1, ltE]
    simp only [if_pos i1, ltE, n1, t.2.2.1, t.2.2.2]
    by_cases c2 : j < (T.2.2.2 k).2.2.2
    · rw [if_pos ((oN_lt (by omega) (by omega)).mpr c2), oN_ad, if_pos (oN_rg (by omega) (by decide)), oN_n (by omega), hR.1.2 _ (by omega), stre_at c2]
    · rw [if_neg (fun g => c2 ((oN_lt (by omega) (by omega)).mp g)), getD_ge (by rw [stre_len h4]; omega)]
theorem tru_numM (hn : nOk v.2.1) (h1 : ¬ v.1 = 3) (h2 : ¬ v.1 = 1) : (if lg_cmp (eM v.2.1) 0 = 0 then oI 0 σ else if lg_cmp (eM v.2.1) (-1000000000000000) = 0 then oI 0 σ else oI 1 σ) = oI (b2i (tru v)) σ := by
  unfold tru
  rw [if_neg h1, if_neg h2]
  by_cases c1 : v.2.1 = some 0
  · rw [if_pos ((lg_eq _ _).mpr ((eM_0 hn).mpr c1)), c1]
    rfl
  · rw [if_neg (fun g => c1 ((eM_0 hn).mp ((lg_eq _ _).mp g))), decide_eq_false c1]
    by_cases c2 : v.2.1 = none
    · rw [if_pos ((lg_eq _ _).mpr ((eM_n hn).mpr c2)), decide_eq_true c2]
      rfl
    · rw [if_neg (fun g => c2 ((eM_n hn).mp ((lg_eq _ _).mp g))), decide_eq_false c2]
      rfl
theorem f237_e (hF : 500 ≤ F) (hq : qOk ns b) (hR : eR b ns σ T np nst npr nop) (hn : nop ≤ 121) (h : vM ns b T nop ty x v) (ho : vOK ns v) : f237 F ty x σ = oI (b2i (tru v)) σ := by
  unfold f237
  rcases h with ⟨h1, rfl, rfl⟩ | ⟨h1, rfl, h3⟩ | ⟨h1, rfl, rfl⟩ | ⟨h1, rfl, rfl⟩
  · have hno : nOk v.2.1 := by
      rcases ho with ⟨_, q⟩ | ⟨q, _⟩ | ⟨q, _⟩ | ⟨q, _⟩
      · exact q
      · omega
      · omega
      · omega
    rw [if_neg (by decide), if_pos rfl]
    exact tru_numM hno (by omega) (by omega)
  · obtain ⟨t1, t2, t3⟩ := h3.st (F := F) hF hq hR hn
    rw [if_pos rfl, show f238 F x 0 σ = oI (v.2.2.2.getD 0 0) σ from t1 0 (by omega), cIo]
    unfold tru
    rw [if_neg (show ¬ v.1 = 3 by omega), if_pos h1]
    by_cases c : v.2.2.2 = []
    · rw [if_pos (show v.2.2.2.getD 0 0 = 0 by rw [c]; rfl), decide_eq_true c]
      rfl
    · have hl : 0 < v.2.2.2.length := List.length_pos_iff.mpr c
      rw [if_neg (show ¬ v.2.2.2.getD 0 0 = 0 from okB_nz t2 hl), decide_eq_false c]
      rfl
  · rw [if_neg (by decide), if_neg (by decide)]
    unfold tru
    rw [if_neg (show ¬ v.1 = 3 by omega), if_neg (show ¬ v.1 = 1 by omega)]
    rcases ho with ⟨q, _⟩ | ⟨q, _⟩ | ⟨_, q⟩ | ⟨q, _⟩
    · omega
    · omega
    · rcases q with q | q <;> rw [q] <;> rfl
    · omega
  · rw [if_neg (by decide), if_neg (by decide)]
    unfold tru
    rw [if_pos h1]
    by_cases c : v.2.2.1 = 0
    · rw [if_pos ((lg_eq _ _).mpr (s64_0.mpr c)), decide_eq_true c]
      rfl
    · rw [if_neg (fun g => c (s64_0.mp ((lg_eq _ _).mp g))), decide_eq_false c]
      rfl
theorem f242_e {z : Int32} {p : Nat} (hF : 100 ≤ F) (hn : ns.length ≤ 30) (h : lowS z ns.length 0 = some p) : f242 F z σ = oI (Int32.ofNat p) σ := by
  have key : ∀ (m k j : Nat), j + m = ns.length → lowS z m j = some p → f242_2 F (k + m + 1) z (Int32.ofNat j) σ = oI (Int32.ofNat p) σ := by
    intro m
    induction m with
    | zero =>
      intro k j hj hl
      cases hl
    | succ m ih =>
      intro k j hj hl
      unfold lowS at hl
      rw [show k + (m + 1) + 1 = (k + m + 1) + 1 by omega, f242_2.eq_2, bit_m (by omega)]
      by_cases c : bt z j = true
      · rw [if_pos c] at hl
        injection hl with hl
        rw [if_pos c, if_neg (show ¬ (1 : Int32) = 0 by decide), hl]
      · rw [if_neg c] at hl
        rw [if_neg c, if_pos rfl, oN_p1]
        exact ih k (j + 1) (by omega) hl
  have := key ns.length (F - ns.length - 1) 0 (by omega) h
  rw [show F - ns.length - 1 + ns.length + 1 = F by omega] at this
  exact this
theorem f240_e (hF : 15000 ≤ F) (hq : qOk ns b) (hR : eR b ns σ T np nst npr nop) (hn : nop ≤ 121) (h : vM ns b T nop ty x v) (ho : vOK ns v) : f240 F ty x σ = oJ (eM (nmV ns v)) σ := by
  have hns := hq.2.1.1.1
  unfold f240 nmV
  rcases h with ⟨h1, rfl, rfl⟩ | ⟨h1, rfl, h3⟩ | ⟨h1, rfl, rfl⟩ | ⟨h1, rfl, rfl⟩
  · rw [if_neg (by decide), if_neg (by decide), if_neg (by omega), if_neg (by omega)]
  · obtain ⟨t1, t2, t3⟩ := h3.st (F := F) (by omega) hq hR hn
    rw [if_pos rfl, f241_e hF t1 t2 t3, cJo, if_pos h1]
  · rw [if_neg (by decide), if_neg (by decide), if_neg (by omega), if_neg (by omega)]
  · have hin : inN ns.length v.2.2.1 := by
      rcases ho with ⟨q, _⟩ | ⟨q, _⟩ | ⟨q, _⟩ | ⟨_, q⟩
      · omega
      · omega
      · omega
      · exact q
    rw [if_neg (by decide), if_pos rfl, if_neg (show ¬ v.1 = 1 by omega), if_pos h1]
    have z := set0 hin (by omega)
    by_cases c : v.2.2.1 = 0
    · rw [if_pos ((lg_eq _ _).mpr (s64_0.mpr c)), z.mp c]
      rfl
    · rw [if_neg (fun g => c (s64_0.mp ((lg_eq _ _).mp g))), s64_32]
      cases hl : lowS v.2.2.1 ns.length 0 with
      | none => exact absurd (z.mpr hl) c
      | some p =>
        have hp := lowS_lt _ _ hl
        have tx : txM ns b T nop (Int64.ofInt (p : Int)) (sv ns p) := Or.inl ⟨p, by omega, rfl, rfl⟩
        obtain ⟨t1, t2, t3⟩ := tx.st (F := F) (by omega) hq hR hn
        rw [f242_e (by omega) hns hl, cIo, (cN p (by omega)).2.2, f241_e hF t1 t2 t3, cJo]
        rfl
theorem f246_e (hF : 6000 ≤ F) (h1 : txS F σ x s) (h2 : okB s) (h3 : s.length ≤ 5000) (g1 : txS F σ y s2) (g2 : okB s2) (g3 : s2.length ≤ 5000) : f246 F x y σ = oI (b2i (decide (s = s2))) σ := by
  have fin : ∀ j, j < 100000 → f246_36 F x y (Int32.ofNat j) σ = oI (b2i (decide (s.getD j 0 = s2.getD j 0))) σ := by
    intro j hj
    unfold f246_36
    rw [h1 j hj, cIo, g1 j hj, cIo, ifd]
  have key : ∀ (m k j : Nat), j + m = s.length → (∀ i, i < j → s.getD i 0 = s2.getD i 0) → f246_3 F (k + m + 1) x y (Int32.ofNat j) σ = oI (b2i (decide (s = s2))) σ := by
    intro m
    induction m with
    | zero =>
      intro k j hj he
      have hle : j ≤ s2.length := by
        by_cases c : j = 0
        · omega
        · have e := he (j - 1) (by omega)
          have := okB_nz h2 (show j - 1 < s.length by omega)
          rw [e] at this
          have := nz_lt this
          omega
      rw [f246_3.eq_2, h1 j (by omega), cIo, if_pos (getD_ge (by omega)), fin j (by omega)]
      congr 2
      refine decide_eq_decide.mpr ⟨fun e => ?_, fun e => by rw [e]⟩
      rw [getD_ge (by omega)] at e
      have e2 : s2.length = s.length := by
        by_cases c : j < s2.length
        · exact absurd e.symm (okB_nz g2 c)
        · omega
      exact list_getD_ext e2.symm (fun i hi => he i (by omega))
    | succ m ih =>
      intro k j hj he
      rw [show k + (m + 1) + 1 = (k + m + 1) + 1 by omega, f246_3.eq_2, h1 j (by omega), cIo, if_neg (okB_nz h2 (by omega)), h1 j (by omega), cIo, g1 j (by omega), cIo]
      by_cases c : s.getD j 0 = s2.getD j 0
      · rw [if_pos c, oN_p1]
        refine ih k (j + 1) (by omega) (fun i hi => ?_)
        by_cases c2 : i = j
        · rw [c2]
          exact c
        · exact he i (by omega)
      · rw [if_neg c, fin j (by omega), decide_eq_false c, decide_eq_false (fun q => c (by rw [q]))]
  have := key s.length (F - s.length - 1) 0 (by omega) (fun i hi => absurd hi (Nat.not_lt_zero _))
  rw [show F - s.length - 1 + s.length + 1 = F by omega] at this
  exact this
theorem f244_32_e (ho : o < 4) (hF : 15000 ≤ F) (hq : qOk ns b) (hR : eR b ns σ T np nst npr nop) (hn : nop ≤ 121) (h : vM ns b T nop ty x v) (hv : vOK ns v) (g : vM ns b T nop uy y w) (hw : vOK ns w) : f244_32 F (Int32.ofNat (9 + o)) ty x uy y σ = oI (b2i (cmpN o (nmV ns v) (nmV ns w))) σ := by
  unfold f244_32
  rw [f240_e hF hq hR hn h hv, cJo, f240_e hF hq hR hn g hw, cJo, f245_e ho hv.n hw.n, cIo, if_pos (b2i_z _)]
theorem vM.tg (h : vM ns b T nop ty x v) : v.1 ≤ 3 ∧ ty = Int32.ofNat v.1 := by
  rcases h with ⟨h1, h2, _⟩ | ⟨h1, h2, _⟩ | ⟨h1, h2, _⟩ | ⟨h1, h2, _⟩ <;> rw [h1, h2] <;> exact ⟨by omega, rfl⟩
theorem f244_e (ho : o < 4) (hF : 15000 ≤ F) (hq : qOk ns b) (hR : eR b ns σ T np nst npr nop) (hn : nop ≤ 121) (h : vM ns b T nop ty x v) (hv : vOK ns v) (g : vM ns b T nop uy y w) (hw : vOK ns w) (hv3 : ¬ v.1 = 3) (hw3 : ¬ w.1 = 3) : f244 F (Int32.ofNat (9 + o)) ty x uy y σ = oI (b2i (cmpV ns o v w)) σ := by
  have k := f244_32_e ho hF hq hR hn h hv g hw
  have ht := h.tg
  have gt := g.tg
  have eq2 : ∀ {z : Nat} {c : Nat}, z ≤ 3 → c ≤ 3 → (Int32.ofNat z = Int32.ofNat c ↔ z = c) := fun h1 h2 => oN_eq (by omega) (by omega)
  have t2 : ty = 2 ↔ v.1 = 2 := by rw [ht.2]; exact eq2 (c := 2) ht.1 (by decide)
  have u2 : uy = 2 ↔ w.1 = 2 := by rw [gt.2]; exact eq2 (c := 2) gt.1 (by decide)
  have t0 : ty = 0 ↔ v.1 = 0 := by rw [ht.2]; exact eq2 (c := 0) ht.1 (by decide)
  have u0 : uy = 0 ↔ w.1 = 0 := by rw [gt.2]; exact eq2 (c := 0) gt.1 (by decide)
  have bo : o < 2 → f244_70 F (Int32.ofNat (9 + o)) ty x uy y σ = oI (b2i (decide (decide (tru v = tru w) = decide (o = 0)))) σ := by
    intro h2
    unfold f244_70 f244_102
    rw [f237_e (by omega) hq hR hn h hv, cIo, f237_e (by omega) hq hR hn g hw, cIo]
    have hc : o = 0 ∨ o = 1 := by omega
    generalize tru v = p
    generalize tru w = q
    rcases hc with rfl | rfl <;> cases p <;> cases q <;> rfl
  unfold f244 cmpV
  by_cases c : 2 ≤ o
  · rw [if_pos c]
    have hc : o = 2 ∨ o = 3 := by omega
    rcases hc with rfl | rfl
    · rw [if_pos (by decide)]
      exact k
    · rw [if_neg (by decide), if_pos (by decide)]
      exact k
  · rw [if_neg c, if_neg (fun q => by have := (oN_eq (q := 11) (by omega) (by decide)).mp q; omega), if_neg (fun q => by have := (oN_eq (q := 12) (by omega) (by decide)).mp q; omega)]
    by_cases c1 : v.1 = 2
    · rw [if_pos (t2.mpr c1), if_pos (Or.inl c1)]
      unfold f244_59
      rw [if_pos (t2.mpr c1)]
      exact bo (by omega)
    · rw [if_neg (fun q => c1 (t2.mp q))]
      by_cases c2 : w.1 = 2
      · rw [if_pos (u2.mpr c2), if_pos (Or.inr c2)]
        unfold f244_59
        rw [if_neg (fun q => c1 (t2.mp q)), if_pos (u2.mpr c2)]
        exact bo (by omega)
      · rw [if_neg (fun q => c2 (u2.mp q)), if_neg (show ¬ (v.1 = 2 ∨ w.1 = 2) from fun q => q.elim c1 c2)]
        by_cases c3 : v.1 = 0
        · rw [if_pos (t0.mpr c3), if_pos (Or.inl c3)]
          exact k
        · rw [if_neg (fun q => c3 (t0.mp q))]
          by_cases c4 : w.1 = 0
          · rw [if_pos (u0.mpr c4), if_pos (Or.inr c4)]
            exact k
          · rw [if_neg (fun q => c4 (u0.mp q)), if_neg (show ¬ (v.1 = 0 ∨ w.1 = 0) from fun q => q.elim c3 c4)]
            have tx : ∀ {a : Vl} {z : Int64} {tz : Int32}, vM ns b T nop tz z a → a.1 = 1 → txM ns b T nop z a.2.2.2 := by
              intro a z tz ha h1
              rcases ha with ⟨q, _⟩ | ⟨_, _, q⟩ | ⟨q, _⟩ | ⟨q, _⟩
              · omega
              · exact q
              · omega
              · omega
            obtain ⟨p1, p2, p3⟩ := (tx h (by omega)).st (F := F) (by omega) hq hR hn
            obtain ⟨r1, r2, r3⟩ := (tx g (by omega)).st (F := F) (by omega) hq hR hn
            unfold f244_59 f244_102
            rw [if_neg (fun q => c1 (t2.mp q)), if_neg (fun q => c2 (u2.mp q)), f246_e (by omega) p1 p2 p3 r1 r2 r3, cIo]
            have hc : o = 0 ∨ o = 1 := by omega
            generalize decide (v.2.2.2 = w.2.2.2) = z
            rcases hc with rfl | rfl <;> cases z <;> rfl
end RVM
