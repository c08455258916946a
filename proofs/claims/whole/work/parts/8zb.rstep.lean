/-! THE REFERENCE READS: the machine's moves about steps -/
def Rn (F y : Nat) (σ : St) (z : Nat) (τ : St) (c : Nat) : Prop := ∀ n, f207_46 F (n + c) (Int32.ofNat y) σ = f207_46 F n (Int32.ofNat z) τ
section RST
variable {F p d np nst npr nop : Nat} {b : List Int32} {T : Tb} {σ τ υ : St}
theorem Rn.rf {y : Nat} : Rn F y σ y σ 0 := fun _ => rfl
theorem Rn.tr {y z w c e : Nat} (h : Rn F y σ z τ c) (g : Rn F z τ w υ e) : Rn F y σ w υ (c + e) := fun n => by
  rw [show n + (c + e) = (n + e) + c by omega, h (n + e), g n]
theorem Rn.m1 {z : Nat} (h : f208 F σ = oI (Int32.ofNat z) τ) : Rn F 1 σ z τ 1 := fun n => by
  rw [f207_46.eq_2, if_neg (by decide), if_neg (by decide), if_pos (by decide), h, cIo]
  rfl
theorem Rn.m2 {z : Nat} (h : f211 F σ = oI (Int32.ofNat z) τ) : Rn F 2 σ z τ 1 := fun n => by
  rw [f207_46.eq_2, if_neg (by decide), if_neg (by decide), if_neg (by decide), if_pos (by decide), h, cIo]
  rfl
theorem Rn.m3 {z : Nat} (h : f217 F σ = oI (Int32.ofNat z) τ) : Rn F 3 σ z τ 1 := fun n => by
  rw [f207_46.eq_2, if_neg (by decide), if_neg (by decide), if_neg (by decide), if_neg (by decide), if_pos (by decide), h, cIo]
  rfl
theorem Rn.m4 {z : Nat} (h : f219 F σ = oI (Int32.ofNat z) τ) : Rn F 4 σ z τ 1 := fun n => by
  rw [f207_46.eq_2, if_neg (by decide), if_neg (by decide), if_neg (by decide), if_neg (by decide), if_neg (by decide), if_pos (by decide), h, cIo]
  rfl
theorem Rn.m5 {z : Nat} (h : f220 F σ = oI (Int32.ofNat z) τ) : Rn F 5 σ z τ 1 := fun n => by
  rw [f207_46.eq_2, if_neg (by decide), if_neg (by decide), if_neg (by decide), if_neg (by decide), if_neg (by decide), if_neg (by decide), if_pos (by decide), h, cIo]
  rfl
theorem Rn.m6 {z : Nat} (h : f222 F σ = oI (Int32.ofNat z) τ) : Rn F 6 σ z τ 1 := fun n => by
  rw [f207_46.eq_2, if_neg (by decide), if_neg (by decide), if_neg (by decide), if_neg (by decide), if_neg (by decide), if_neg (by decide), if_neg (by decide), if_pos (by decide), h, cIo]
  rfl
theorem Rn.m7 {z : Nat} (h : f225 F σ = oI (Int32.ofNat z) τ) : Rn F 7 σ z τ 1 := fun n => by
  rw [f207_46.eq_2, if_neg (by decide), if_neg (by decide), if_neg (by decide), if_neg (by decide), if_neg (by decide), if_neg (by decide), if_neg (by decide), if_neg (by decide), h, cIo]
  rfl
theorem kwk : Int64.ofInt (ecL (lits 45) : Int) = 1952807028 ∧ Int64.ofInt (ecL (lits 46) : Int) = 27988538471837300 ∧ Int64.ofInt (ecL (lits 47) : Int) = 1852793957 ∧ Int64.ofInt (ecL (lits 50) : Int) = 8101821151424638830 ∧ Int64.ofInt (ecL (lits 51) : Int) = 1818325876 ∧ Int64.ofInt (ecL (lits 52) : Int) = 427071729268 ∧ Int64.ofInt (ecL (lits 53) : Int) = 7237492 := by decide +kernel
theorem kws : slen 45 ≤ 8 ∧ slen 46 ≤ 8 ∧ slen 47 ≤ 8 ∧ slen 50 ≤ 8 ∧ slen 51 ≤ 8 ∧ slen 52 ≤ 8 ∧ slen 53 ≤ 8 := by decide +kernel
/-- test -/
theorem f212_e {a k : Nat} (hF : 500 ≤ F) (hb : b.length ≤ 120) (ho : okB b) (h : mQ b σ p d np nst npr nop T) (hn : nst ≤ 120) (hk : σ.1 1354 d = Int32.ofNat k) (hkn : k < np) (ha : a < 12) : (rdK b p = none → ∃ τ, f212 F (Int32.ofNat a) σ = oI 8 τ ∧ agR0 σ τ) ∧ ∀ x, rdK b p = some x → ∃ τ, f212 F (Int32.ofNat a) σ = oI 3 τ ∧ mQ b τ x.2 d np (nst + 1) npr nop (adS T nst (k, a, x.1.1, x.1.2.1, x.1.2.2)) ∧ agK d σ τ ∧ τ.1 1354 d = Int32.ofNat k ∧ τ.1 1355 d = Int32.ofNat nst := by
  have hp := h.2.2.2.2.1
  have n1 := nmE_ge (b := b) (p := p)
  have n2 := nmE_le hp
  have hm : ∀ q, q ≤ b.length → (uI σ 1315 32 (Int32.ofNat q)).1 1354 d = Int32.ofNat k := fun q _ => by rw [u_ne (by decide)]; exact hk
  unfold f212
  rw [ltE, h.2.1.1, h.ch hb (by omega), cIo]
  by_cases c1 : b.getD p 0 = 42
  · have hl := ch_lt c1 (by decide)
    have e : rdK b p = some ((1, 0, 0), p + 1) := by
      unfold rdK
      rw [if_pos c1]
    rw [if_pos c1, ltE, h.2.1.1, oN_p1, ltE, e]
    obtain ⟨τ, t1, t2, t3, t4, t5⟩ := f209_e (F := F) (a := a) (t := 1) (f := 0) (n := 0) (h.mv (q := p + 1) (by omega)) hn (hm _ (by omega)) hkn ⟨ha, by decide, Nat.zero_le _⟩
    refine ⟨fun q => (by cases q), fun x hx => ?_⟩
    injection hx with hx
    subst hx
    refine ⟨τ, ?_, t2, (agF.mv (d := d + 1) (Or.inl rfl)).c.tr t3, t4, t5⟩
    rw [show f209 F (Int32.ofNat a) 1 0 0 (uI σ 1315 32 (Int32.ofNat (p + 1))) = oV τ from t1, cVo]
  · rw [if_neg c1, ltE, h.2.1.1, f163_e hF hb h.1 (by omega), cIo, ltE, h.2.1.1]
    by_cases c2 : nmE b p = p
    · have e : rdK b p = none := by
        unfold rdK
        rw [if_neg c1, if_pos c2]
      rw [if_pos (by rw [c2]), e]
      exact ⟨fun _ => ⟨σ, rfl, agR0.rf⟩, fun x hx => by cases hx⟩
    · rw [if_neg (fun g => c2 ((oN_eq (by omega) (by omega)).mp g)), h.ch hb (by omega), cIo]
      by_cases c3 : b.getD (nmE b p) 0 = 40
      · have hl := ch_lt c3 (by decide)
        rw [if_pos c3, ltE, h.2.1.1, f213_e hF hb ho h.1 n1 n2 (by decide) kws.1 kwk.1.symm, cIo, ifb]
        -- behind the word
        have fin : ∀ t, kdT (nmW b p) = some t → (rdK b p = none → ∃ τ, f212_144 F (Int32.ofNat a) (Int32.ofNat (nmE b p)) (Int32.ofNat t) σ = oI 8 τ ∧ agR0 σ τ) ∧ ∀ x, rdK b p = some x → ∃ τ, f212_144 F (Int32.ofNat a) (Int32.ofNat (nmE b p)) (Int32.ofNat t) σ = oI 3 τ ∧ mQ b τ x.2 d np (nst + 1) npr nop (adS T nst (k, a, x.1.1, x.1.2.1, x.1.2.2)) ∧ agK d σ τ ∧ τ.1 1354 d = Int32.ofNat k ∧ τ.1 1355 d = Int32.ofNat nst := by
          intro t ht
          have htl := kdT_lt ht
          unfold f212_144
          rw [if_neg (oN_nn (by omega)), oN_p1, h.ch hb (by omega), cIo]
          by_cases c4 : b.getD (nmE b p + 1) 0 = 41
          · have hl4 := ch_lt c4 (by decide)
            have e : rdK b p = some ((t, 0, 0), nmE b p + 2) := by
              unfold rdK
              rw [if_neg c1, if_neg c2, if_pos c3, if_pos c4, ht]
            obtain ⟨τ, t1, t2, t3, t4, t5⟩ := f209_e (F := F) (a := a) (t := t) (f := 0) (n := 0) (h.mv (q := nmE b p + 2) (by omega)) hn (hm _ (by omega)) hkn ⟨ha, htl, Nat.zero_le _⟩
            rw [if_pos c4, oN_p2, ltE, e]
            refine ⟨fun q => (by cases q), fun x hx => ?_⟩
            injection hx with hx
            subst hx
            refine ⟨τ, ?_, t2, (agF.mv (d := d + 1) (Or.inl rfl)).c.tr t3, t4, t5⟩
            rw [show f209 F (Int32.ofNat a) (Int32.ofNat t) 0 0 (uI σ 1315 32 (Int32.ofNat (nmE b p + 2))) = oV τ from t1, cVo]
          · have e : rdK b p = none := by
              unfold rdK
              rw [if_neg c1, if_neg c2, if_pos c3, if_neg c4]
            rw [if_neg c4, e]
            exact ⟨fun _ => ⟨σ, rfl, agR0.rf⟩, fun x hx => by cases hx⟩
        by_cases k1 : stre b p (nmE b p - p) = lits 45
        · rw [if_pos (decide_eq_true k1)]
          exact fin 2 (by unfold kdT nmW; rw [if_pos k1])
        · rw [if_neg (by rw [decide_eq_false k1]; decide), ltE, h.2.1.1, f213_e hF hb ho h.1 n1 n2 (by decide) kws.2.1 kwk.2.1.symm, cIo, ifb]
          by_cases k2 : stre b p (nmE b p - p) = lits 46
          · rw [if_pos (decide_eq_true k2)]
            exact fin 3 (by unfold kdT nmW; rw [if_neg k1, if_pos k2])
          · rw [if_neg (by rw [decide_eq_false k2]; decide), ltE, h.2.1.1, f213_e hF hb ho h.1 n1 n2 (by decide) kws.2.2.1 kwk.2.2.1.symm, cIo, ifb]
            by_cases k3 : stre b p (nmE b p - p) = lits 47
            · rw [if_pos (decide_eq_true k3)]
              exact fin 4 (by unfold kdT nmW; rw [if_neg k1, if_neg k2, if_pos k3])
            · have e : rdK b p = none := by
                have e2 : kdT (nmW b p) = none := by
                  unfold kdT nmW
                  rw [if_neg k1, if_neg k2, if_neg k3]
                unfold rdK
                rw [if_neg c1, if_neg c2, if_pos c3, e2]
                split <;> rfl
              unfold f212_144
              rw [if_neg (by rw [decide_eq_false k3]; decide), if_pos (show (-1 : Int32) < 0 by decide), e]
              exact ⟨fun _ => ⟨σ, rfl, agR0.rf⟩, fun x hx => by cases hx⟩
      · have e : rdK b p = some ((0, p, nmE b p - p), nmE b p) := by
          unfold rdK
          rw [if_neg c1, if_neg c2, if_neg c3]
        obtain ⟨τ, t1, t2, t3, t4, t5⟩ := f209_e (F := F) (a := a) (t := 0) (f := p) (n := nmE b p - p) h hn hk hkn ⟨ha, by decide, by omega⟩
        rw [if_neg c3, ltE, h.2.1.1, ltE, oN_sb n1, show f209 F (Int32.ofNat a) 0 (Int32.ofNat p) (Int32.ofNat (nmE b p - p)) σ = oV τ from t1, cVo, ltE, e]
        refine ⟨fun q => (by cases q), fun x hx => ?_⟩
        injection hx with hx
        subst hx
        exact ⟨_, rfl, t2.mv n2, t3.tr (agF.mv (d := d + 1) (Or.inl rfl)).c, by rw [u_ne (by decide)]; exact t4, by rw [u_ne (by decide)]; exact t5⟩
/-- a step up to its predicates: axis, test, place, dot -/
def rdS0 (b : List Int32) (p : Nat) : Option ((Nat × Nat × Nat × Nat) × Nat × Bool) :=
  if b.getD p 0 = 46 then (if b.getD (p + 1) 0 = 46 then some ((2, 4, 0, 0), p + 2, true) else some ((4, 4, 0, 0), p + 1, true))
  else match rdA b p with
    | none => none
    | some x => match rdK b x.2 with
      | none => none
      | some y => some ((x.1, y.1.1, y.1.2.1, y.1.2.2), y.2, false)
theorem f211_e {k : Nat} (hF : 500 ≤ F) (hb : b.length ≤ 120) (ho : okB b) (h : mQ b σ p d np nst npr nop T) (hn : nst ≤ 120) (hk : σ.1 1354 d = Int32.ofNat k) (hkn : k < np) : (rdS0 b p = none → ∃ τ, f211 F σ = oI 8 τ ∧ agR0 σ τ) ∧ ∀ x, rdS0 b p = some x → ∃ τ, f211 F σ = oI (if x.2.2 = true then 4 else 3) τ ∧ mQ b τ x.2.1 d np (nst + 1) npr nop (adS T nst (k, x.1.1, x.1.2.1, x.1.2.2.1, x.1.2.2.2)) ∧ agK d σ τ ∧ τ.1 1354 d = Int32.ofNat k ∧ τ.1 1355 d = Int32.ofNat nst := by
  have hp := h.2.2.2.2.1
  have n1 := nmE_ge (b := b) (p := p)
  have n2 := nmE_le hp
  have hm : ∀ q, (uI σ 1315 32 (Int32.ofNat q)).1 1354 d = Int32.ofNat k := fun q => by rw [u_ne (by decide)]; exact hk
  unfold f211
  rw [ltE, h.2.1.1, h.ch hb (by omega), cIo]
  by_cases c1 : b.getD p 0 = 46
  · have hl := ch_lt c1 (by decide)
    unfold f211_35 f211_50
    rw [if_pos c1, ltE, h.2.1.1, oN_p1, h.ch hb (by omega), cIo]
    by_cases c2 : b.getD (p + 1) 0 = 46
    · have hl2 := ch_lt c2 (by decide)
      have e : rdS0 b p = some ((2, 4, 0, 0), p + 2, true) := by
        unfold rdS0
        rw [if_pos c1, if_pos c2]
      obtain ⟨τ, t1, t2, t3, t4, t5⟩ := f209_e (F := F) (a := 2) (t := 4) (f := 0) (n := 0) (h.mv (q := p + 2) (by omega)) hn (hm _) hkn ⟨by decide, by decide, Nat.zero_le _⟩
      rw [if_pos c2, ltE, h.2.1.1, if_neg (show ¬ (1 : Int32) = 0 by decide), oN_p2, ltE, if_neg (show ¬ (1 : Int32) = 0 by decide), show f209 F 2 4 0 0 (uI σ 1315 32 (Int32.ofNat (p + 2))) = oV τ from t1, cVo, e]
      refine ⟨fun q => (by cases q), fun x hx => ?_⟩
      injection hx with hx
      subst hx
      exact ⟨τ, rfl, t2, (agF.mv (d := d + 1) (Or.inl rfl)).c.tr t3, t4, t5⟩
    · have e : rdS0 b p = some ((4, 4, 0, 0), p + 1, true) := by
        unfold rdS0
        rw [if_pos c1, if_neg c2]
      obtain ⟨τ, t1, t2, t3, t4, t5⟩ := f209_e (F := F) (a := 4) (t := 4) (f := 0) (n := 0) (h.mv (q := p + 1) (by omega)) hn (hm _) hkn ⟨by decide, by decide, Nat.zero_le _⟩
      rw [if_neg c2, ltE, h.2.1.1, if_pos rfl, oN_p1, ltE, if_pos rfl, show f209 F 4 4 0 0 (uI σ 1315 32 (Int32.ofNat (p + 1))) = oV τ from t1, cVo, e]
      refine ⟨fun q => (by cases q), fun x hx => ?_⟩
      injection hx with hx
      subst hx
      exact ⟨τ, rfl, t2, (agF.mv (d := d + 1) (Or.inl rfl)).c.tr t3, t4, t5⟩
  · rw [if_neg c1]
    -- a test behind an axis
    have tst : ∀ (a q : Nat), a < 12 → q ≤ b.length → rdA b p = some (a, q) → (rdS0 b p = none → ∃ τ, cI (f212 F (Int32.ofNat a) (uI σ 1315 32 (Int32.ofNat q))) (fun c16 σ15 => oI c16 σ15) = oI 8 τ ∧ agR0 σ τ) ∧ ∀ x, rdS0 b p = some x → ∃ τ, cI (f212 F (Int32.ofNat a) (uI σ 1315 32 (Int32.ofNat q))) (fun c16 σ15 => oI c16 σ15) = oI (if x.2.2 = true then 4 else 3) τ ∧ mQ b τ x.2.1 d np (nst + 1) npr nop (adS T nst (k, x.1.1, x.1.2.1, x.1.2.2.1, x.1.2.2.2)) ∧ agK d σ τ ∧ τ.1 1354 d = Int32.ofNat k ∧ τ.1 1355 d = Int32.ofNat nst := by
      intro a q ha hq hA
      have y := f212_e (F := F) (a := a) hF hb ho (h.mv hq) hn (hm q) hkn ha
      cases hK : rdK b q with
      | none =>
        have e : rdS0 b p = none := by
          unfold rdS0
          rw [if_neg c1, hA]
          dsimp only
          rw [hK]
        obtain ⟨τ, t1, t2⟩ := y.1 hK
        rw [e, t1, cIo]
        exact ⟨fun _ => ⟨τ, rfl, (agF.mv (d := 0) (Or.inl rfl)).1.tr t2⟩, fun x hx => by cases hx⟩
      | some z =>
        have e : rdS0 b p = some ((a, z.1.1, z.1.2.1, z.1.2.2), z.2, false) := by
          unfold rdS0
          rw [if_neg c1, hA]
          dsimp only
          rw [hK]
        obtain ⟨τ, t1, t2, t3, t4, t5⟩ := y.2 z hK
        rw [e, t1, cIo]
        refine ⟨fun q => (by cases q), fun x hx => ?_⟩
        injection hx with hx
        subst hx
        exact ⟨τ, rfl, t2, (agF.mv (d := d + 1) (Or.inl rfl)).c.tr t3, t4, t5⟩
    have same : uI σ 1315 32 (Int32.ofNat p) = σ := uI_same h.2.1.1
    by_cases c2 : b.getD p 0 = 64
    · have hl := ch_lt c2 (by decide)
      rw [if_pos c2, ltE, h.2.1.1, oN_p1, ltE]
      exact tst 5 (p + 1) (by decide) (by omega) (by unfold rdA; rw [if_pos c2])
    · rw [if_neg c2, ltE, h.2.1.1, f163_e hF hb h.1 (by omega), cIo, ltE, h.2.1.1]
      by_cases c3 : nmE b p = p
      · have z := tst 0 p (by decide) hp (by unfold rdA; rw [if_neg c2, if_pos c3])
        rw [same] at z
        rw [if_neg (fun g => by have := (oN_lt (by omega) (by omega)).mp g; omega)]
        exact z
      · rw [if_pos ((oN_lt (by omega) (by omega)).mpr (by omega)), h.ch hb (by omega), cIo]
        by_cases c4 : b.getD (nmE b p) 0 = 58
        · rw [if_pos c4, oN_p1, h.ch hb (by omega), cIo]
          by_cases c5 : b.getD (nmE b p + 1) 0 = 58
          · have hl5 := ch_lt c5 (by decide)
            rw [if_pos c5, ltE, h.2.1.1, f215_e hF hb ho h.1 n1 n2, cIo, oN_p2, ltE]
            have eA : rdA b p = match axN (nmW b p) with
                | none => none
                | some a => some (a, nmE b p + 2) := by
              unfold rdA
              rw [if_neg c2, if_neg c3, if_pos ⟨c4, c5⟩]
              rfl
            cases hx : axN (stre b p (nmE b p - p)) with
            | none =>
              have e : rdS0 b p = none := by
                unfold rdS0
                rw [if_neg c1, eA]
                unfold nmW
                rw [hx]
              rw [if_pos (show axC none < 0 by decide), e]
              exact ⟨fun _ => ⟨_, rfl, (agF.mv (d := 0) (Or.inl rfl)).1⟩, fun x hx => by cases hx⟩
            | some a =>
              have ha := axF_lt 12 0 hx
              rw [if_neg (show ¬ axC (some a) < 0 from oN_nn (by omega))]
              refine tst a (nmE b p + 2) (by omega) (by omega) ?_
              rw [eA]
              unfold nmW
              rw [hx]
          · have z := tst 0 p (by decide) hp (by unfold rdA; rw [if_neg c2, if_neg c3, if_neg (fun g => c5 g.2)])
            rw [same] at z
            rw [if_neg c5]
            exact z
        · have z := tst 0 p (by decide) hp (by unfold rdA; rw [if_neg c2, if_neg c3, if_neg (fun g => c4 g.1)])
          rw [same] at z
          rw [if_neg c4]
          exact z
end RST
