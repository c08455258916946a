/-! THE REFERENCE PRINTS: its stack of open elements -/
/-- the elements from n down that hold p -/
def sL (ns : List Nd) (p : Nat) : Nat → List Nat
  | 0 => []
  | t + 1 => if hasC ns (t + 1) ∧ p ≤ t + 1 + siz ns (t + 1) then (t + 1) :: sL ns p t else sL ns p t
def stk (σ : St) : List Nat → Prop
  | [] => True
  | t :: r => σ.1 1340 r.length = Int32.ofNat t ∧ stk σ r
theorem stk.fr {σ τ : St} (h : τ.1 1340 = σ.1 1340) : ∀ l, stk σ l → stk τ l
  | [], _ => trivial
  | t :: r, g => ⟨by rw [h]; exact g.1, stk.fr h r g.2⟩
theorem stk.push {σ : St} {n : Nat} {v : Int32} : ∀ l, l.length ≤ n → stk σ l → stk (uI σ 1340 n v) l
  | [], _, _ => trivial
  | t :: r, hl, g => by
    rw [List.length_cons] at hl
    exact ⟨by rw [u_at, if_neg (by omega)]; exact g.1, stk.push r (by omega) g.2⟩
section SLL
variable {ns : List Nd} {p : Nat}
theorem sL_eq : ∀ n, (∀ t, 0 < t → t ≤ n → ¬ t + siz ns t = p) → sL ns (p + 1) n = sL ns p n
  | 0, _ => rfl
  | n + 1, h => by
    have i1 := sL_eq n (fun t h1 h2 => h t h1 (by omega))
    have k := h (n + 1) (by omega) (Nat.le_refl _)
    unfold sL
    rw [i1]
    by_cases c : hasC ns (n + 1) ∧ p ≤ n + 1 + siz ns (n + 1)
    · rw [if_pos c, if_pos ⟨c.1, by have := c.2; omega⟩]
    · rw [if_neg c, if_neg (fun g => c ⟨g.1, by have := g.2; omega⟩)]
theorem sL_mem : ∀ n t, t ∈ sL ns p n → 0 < t ∧ t ≤ n ∧ hasC ns t ∧ p ≤ t + siz ns t
  | 0, t, h => absurd h List.not_mem_nil
  | n + 1, t, h => by
    unfold sL at h
    by_cases c : hasC ns (n + 1) ∧ p ≤ n + 1 + siz ns (n + 1)
    · rw [if_pos c, List.mem_cons] at h
      rcases h with h | h
      · rw [h]
        exact ⟨by omega, Nat.le_refl _, c.1, c.2⟩
      · have := sL_mem n t h
        exact ⟨this.1, by omega, this.2.2⟩
    · rw [if_neg c] at h
      have := sL_mem n t h
      exact ⟨this.1, by omega, this.2.2⟩
/-- no more are open than levels -/
theorem sL_len (hw : wf ns) (hp : p < ns.length) : ∀ n, n ≤ p → (sL ns p n).length ≤ 8 ∧ (∀ t r, sL ns p n = t :: r → (sL ns p n).length ≤ (nd ns t).2.1)
  | 0, _ => ⟨Nat.zero_le _, fun t r h => by unfold sL at h; cases h⟩
  | n + 1, hn => by
    have ih := sL_len hw hp n (by omega)
    unfold sL
    by_cases c : hasC ns (n + 1) ∧ p ≤ n + 1 + siz ns (n + 1)
    · rw [if_pos c]
      have l8 := ((hw.2.2.2 (n + 1) (by omega) (by omega)).1.2.2.2.2.2.2.2.2 c.1.1).2
      have lp := (nd_pos hw (show 0 < n + 1 by omega) (by omega)).2
      have key : (sL ns p n).length + 1 ≤ (nd ns (n + 1)).2.1 := by
        cases hq : sL ns p n with
        | nil => exact lp
        | cons t r =>
          have k := ih.2 t r hq
          have m := sL_mem n t (by rw [hq]; exact List.mem_cons_self)
          have s := siz_in (ns := ns) (p := t) (j := n + 1) (by omega) (by omega)
          rw [hq] at k
          omega
      refine ⟨by rw [List.length_cons]; omega, fun t r h => ?_⟩
      injection h with h1 h2
      rw [List.length_cons, ← h1]
      exact key
    · rw [if_neg c]
      exact ih
end SLL
section MPR
variable {F : Nat} {ns : List Nd}
/-- closing what ends before p + 1 -/
theorem f197_32_e {p : Nat} {k24 : Int32 → Int32 → St → Rs} {w : Int32} (hF : 5000 ≤ F) (hs : szOk ns) (hw : wf ns) (hp : p < ns.length) : ∀ (n k : Nat) (σ : St) (s : Nat) (ch : Int32), n ≤ p → mTr σ ns → mP σ w s ch → stk σ (sL ns p n) → ∃ τ, f197_32 F k24 (k + n + 1) (Int32.ofNat (sL ns p n).length) (Int32.ofNat (p + 1)) σ = f197_77 F k24 (Int32.ofNat (sL ns (p + 1) n).length) (Int32.ofNat (p + 1)) τ ∧ agW σ τ ∧ mP τ w (s + (enL ns p n).length) (pick w s ch (enL ns p n)) ∧ stk τ (sL ns (p + 1) n) := by
  have hn := hs.1.1
  intro n
  induction n with
  | zero =>
    intro k σ s ch _ ht h hk
    refine ⟨σ, ?_, agW.refl, h, hk⟩
    rw [show sL ns p 0 = [] from rfl, List.length_nil, f197_32.eq_2, if_neg (show ¬ (0 : Int32) < Int32.ofNat 0 by decide)]
    rfl
  | succ n ih =>
    intro k σ s ch hnp ht h hk
    have sl8 := (sL_len hw hp n (by omega)).1
    have hz := siz_le (show n + 1 < ns.length by omega)
    by_cases c : hasC ns (n + 1) ∧ p ≤ n + 1 + siz ns (n + 1)
    · have e1 : sL ns p (n + 1) = (n + 1) :: sL ns p n := by
        rw [sL.eq_2, if_pos c]
      rw [e1] at hk ⊢
      have i9 : inB (Int32.ofNat (sL ns p n).length) 9 := oN_rg (by omega) (by decide)
      have q9 := oN_n (show (sL ns p n).length < 2147483648 by omega)
      have st : f197_32 F k24 (k + (n + 1) + 1) (Int32.ofNat ((n + 1) :: sL ns p n).length) (Int32.ofNat (p + 1)) σ = if n + 1 + siz ns (n + 1) < p + 1 then cV (f198 F (Int32.ofNat (n + 1)) σ) fun σ11 => f197_32 F k24 (k + n + 1) (Int32.ofNat (sL ns p n).length) (Int32.ofNat (p + 1)) σ11 else f197_77 F k24 (Int32.ofNat ((n + 1) :: sL ns p n).length) (Int32.ofNat (p + 1)) σ := by
        rw [show k + (n + 1) + 1 = (k + n + 1) + 1 by omega, f197_32.eq_2, List.length_cons, if_pos (show (0 : Int32) < Int32.ofNat ((sL ns p n).length + 1) from (oN_lt (p := 0) (by decide) (by omega)).mpr (by omega)), oN_s1, oN_m1, if_pos i9, ltE, if_pos i9, ltE]
        simp only [q9]
        unfold f185
        rw [hk.1, if_pos (oN_rg (by omega) (by decide)), ltE, oN_n (by omega), (ht.2 (n + 1) (by omega)).2.1, cIo, oN_ad]
        by_cases c2 : n + 1 + siz ns (n + 1) < p + 1
        · rw [if_pos ((oN_lt (by omega) (by omega)).mpr c2), if_pos c2, if_pos i9, ltE, hk.1]
        · rw [if_neg (fun g => c2 ((oN_lt (by omega) (by omega)).mp g)), if_neg c2]
      by_cases c2 : n + 1 + siz ns (n + 1) < p + 1
      · have ce : n + 1 + siz ns (n + 1) = p := by
          have := c.2
          omega
        have e2 : sL ns (p + 1) (n + 1) = sL ns (p + 1) n := by
          rw [sL.eq_2, if_neg (fun g => by have := g.2; omega)]
        have e3 : enL ns p (n + 1) = endL ns (n + 1) ++ enL ns p n := by
          rw [enL.eq_2, if_pos ⟨ce, c.1⟩]
        obtain ⟨τ, a1, a2, a3⟩ := f198_e (F := F) hF hs (show n + 1 < ns.length by omega) σ w s ch ht h
        obtain ⟨υ, b1, b2, b3, b4⟩ := ih k τ _ _ (by omega) (a2.m ht) a3 (stk.fr (a2.1 1340 (by decide)) _ hk.2)
        refine ⟨υ, ?_, a2.trans b2, ?_, by rw [e2]; exact b4⟩
        · have a1' : f198 F (Int32.ofNat (n + 1)) σ = oV τ := a1
          rw [st, if_pos c2, a1', cVo, b1, e2]
        · rw [e3, List.length_append, pick_app, ← Nat.add_assoc]
          exact b3
      · have none : ∀ t, 0 < t → t ≤ n → ¬ t + siz ns t = p := fun t t1 t2 t3 => by
          have := nest (ns := ns) (t := t) (i := n + 1) (by omega) (by omega)
          omega
        have e2 : sL ns (p + 1) (n + 1) = (n + 1) :: sL ns p n := by
          rw [sL.eq_2, if_pos ⟨c.1, by omega⟩, sL_eq n none]
        have e3 : enL ns p (n + 1) = [] := by
          rw [enL.eq_2, if_neg (fun g => by have := g.1; omega), List.nil_append, enL_skip n 0 (Nat.zero_le _) (fun t t1 t2 => none t t1 t2)]
          rfl
        refine ⟨σ, ?_, agW.refl, ?_, ?_⟩
        · rw [st, if_neg c2, e2]
        · rw [e3]
          exact h
        · rw [e2]
          exact hk
    · have e1 : sL ns p (n + 1) = sL ns p n := by
        rw [sL.eq_2, if_neg c]
      have e2 : sL ns (p + 1) (n + 1) = sL ns (p + 1) n := by
        rw [sL.eq_2, if_neg (fun g => c ⟨g.1, by have := g.2; omega⟩)]
      have e3 : enL ns p (n + 1) = enL ns p n := by
        rw [enL.eq_2, if_neg (fun g => c ⟨g.2, by have := g.1; omega⟩), List.nil_append]
      rw [e1] at hk ⊢
      rw [e2, e3]
      obtain ⟨υ, b1, b2⟩ := ih (k + 1) σ s ch (by omega) ht h hk
      exact ⟨υ, by rw [show k + (n + 1) + 1 = k + 1 + n + 1 by omega]; exact b1, b2⟩
/-- at the end, all -/
theorem f197_152_e {w : Int32} (hF : 5000 ≤ F) (hs : szOk ns) (hw : wf ns) : ∀ (n k : Nat) (σ : St) (s : Nat) (ch : Int32), n ≤ ns.length - 1 → mTr σ ns → mP σ w s ch → stk σ (sL ns (ns.length - 1) n) → ∃ τ, f197_152 F (k + n + 1) (Int32.ofNat (sL ns (ns.length - 1) n).length) σ = oI (pick w s ch (enL ns (ns.length - 1) n)) τ ∧ agW σ τ := by
  have hn := hs.1.1
  have hw1 := hw.1
  intro n
  induction n with
  | zero =>
    intro k σ s ch _ ht h hk
    refine ⟨σ, ?_, agW.refl⟩
    rw [show sL ns (ns.length - 1) 0 = [] from rfl, List.length_nil, f197_152.eq_2, if_neg (show ¬ (0 : Int32) < Int32.ofNat 0 by decide), ltE, h.2.2]
    rfl
  | succ n ih =>
    intro k σ s ch hnp ht h hk
    have sl8 := (sL_len hw (show ns.length - 1 < ns.length by omega) n (by omega)).1
    have hz := siz_le (show n + 1 < ns.length by omega)
    by_cases c : hasC ns (n + 1) ∧ ns.length - 1 ≤ n + 1 + siz ns (n + 1)
    · have e1 : sL ns (ns.length - 1) (n + 1) = (n + 1) :: sL ns (ns.length - 1) n := by
        rw [sL.eq_2, if_pos c]
      rw [e1] at hk ⊢
      have ce : n + 1 + siz ns (n + 1) = ns.length - 1 := by
        have := c.2
        omega
      have e3 : enL ns (ns.length - 1) (n + 1) = endL ns (n + 1) ++ enL ns (ns.length - 1) n := by
        rw [enL.eq_2, if_pos ⟨ce, c.1⟩]
      obtain ⟨τ, a1, a2, a3⟩ := f198_e (F := F) hF hs (show n + 1 < ns.length by omega) σ w s ch ht h
      have a1' : f198 F (Int32.ofNat (n + 1)) σ = oV τ := a1
      obtain ⟨υ, b1, b2⟩ := ih k τ _ _ (by omega) (a2.m ht) a3 (stk.fr (a2.1 1340 (by decide)) _ hk.2)
      refine ⟨υ, ?_, a2.trans b2⟩
      rw [show k + (n + 1) + 1 = (k + n + 1) + 1 by omega, f197_152.eq_2, List.length_cons, if_pos (show (0 : Int32) < Int32.ofNat ((sL ns (ns.length - 1) n).length + 1) from (oN_lt (p := 0) (by decide) (by omega)).mpr (by omega)), oN_m1, if_pos (oN_rg (by omega) (by decide)), ltE, oN_n (by omega), hk.1, a1', cVo, b1, e3, pick_app]
    · have e1 : sL ns (ns.length - 1) (n + 1) = sL ns (ns.length - 1) n := by
        rw [sL.eq_2, if_neg c]
      have e3 : enL ns (ns.length - 1) (n + 1) = enL ns (ns.length - 1) n := by
        rw [enL.eq_2, if_neg (fun g => c ⟨g.2, by have := g.1; omega⟩), List.nil_append]
      rw [e1] at hk ⊢
      rw [e3]
      obtain ⟨υ, b1, b2⟩ := ih (k + 1) σ s ch (by omega) ht h hk
      exact ⟨υ, by rw [show k + (n + 1) + 1 = k + 1 + n + 1 by omega]; exact b1, b2⟩
def agV (σ τ : St) : Prop := (∀ a, a ≠ 1315 → a ≠ 1340 → τ.1 a = σ.1 a) ∧ (∀ j, j ≠ 63 → j ≠ 64 → τ.1 1315 j = σ.1 1315 j) ∧ τ.2 = σ.2
theorem agV.trans {σ τ υ : St} (h : agV σ τ) (g : agV τ υ) : agV σ υ := ⟨fun a h1 h2 => (g.1 a h1 h2).trans (h.1 a h1 h2), fun j h1 h2 => (g.2.1 j h1 h2).trans (h.2.1 j h1 h2), g.2.2.trans h.2.2⟩
theorem agW.v {σ τ : St} (h : agW σ τ) : agV σ τ := ⟨fun a h1 _ => h.1 a h1, h.2.1, h.2.2⟩
theorem agV.m {σ τ : St} (h : agV σ τ) (g : mTr σ ns) : mTr τ ns := g.fr (fun a _ _ => h.1 a (by omega) (by omega)) (h.2.1 3 (by decide) (by decide))
/-- one node -/
theorem f197_77_e {p : Nat} {k24 : Int32 → Int32 → St → Rs} {w : Int32} {σ : St} {s : Nat} {ch : Int32} (hF : 5000 ≤ F) (hs : szOk ns) (hw : wf ns) (hol : ∀ i, i < ns.length → (nd ns i).2.2.2.length ≤ 4300) (hp : p < ns.length) (h0 : 0 < p) (ht : mTr σ ns) (h : mP σ w s ch) (hk : stk σ (sL ns p (p - 1))) : ∃ τ, f197_77 F k24 (Int32.ofNat (sL ns p (p - 1)).length) (Int32.ofNat p) σ = k24 (Int32.ofNat (sL ns p p).length) (Int32.ofNat (p + 1)) τ ∧ agV σ τ ∧ mP τ w (s + (bgL ns p).length) (pick w s ch (bgL ns p)) ∧ stk τ (sL ns p p) := by
  have hn := hs.1.1
  have bk := (hs.1.2 p hp).2
  have nk := (hw.2.2.2 p h0 hp).1
  have i1 : inB (Int32.ofNat p) 31 := oN_rg (by omega) (by decide)
  have q1 := oN_n (show p < 2147483648 by omega)
  have sl8 := (sL_len hw hp (p - 1) (by omega)).1
  have es : sL ns p p = if hasC ns p then p :: sL ns p (p - 1) else sL ns p (p - 1) := by
    obtain ⟨j, rfl⟩ : ∃ j, p = j + 1 := ⟨p - 1, by omega⟩
    rw [sL.eq_2, show j + 1 - 1 = j by omega]
    by_cases c : hasC ns (j + 1)
    · rw [if_pos ⟨c, by omega⟩, if_pos c]
    · rw [if_neg (fun g => c g.1), if_neg c]
  have st : f197_77 F k24 (Int32.ofNat (sL ns p (p - 1)).length) (Int32.ofNat p) σ = (if Int32.ofNat (nd ns p).1 = 1 then cV (f201 F (Int32.ofNat p) σ) fun σ14 => cI (f204 F (Int32.ofNat p) σ14) fun c17 σ16 => if c17 = 0 then k24 (Int32.ofNat (sL ns p (p - 1)).length) (Int32.ofNat (p + 1)) σ16 else if inB (Int32.ofNat (sL ns p (p - 1)).length) 9 then lt (uI σ16 1340 (Int32.ofNat (sL ns p (p - 1)).length).toNatClampNeg (Int32.ofNat p)) fun σ18 => k24 (Int32.ofNat (sL ns p (p - 1)).length + 1) (Int32.ofNat (p + 1)) σ18 else none else if Int32.ofNat (nd ns p).1 = 3 then cV (f202 F (Int32.ofNat p) σ) fun σ20 => k24 (Int32.ofNat (sL ns p (p - 1)).length) (Int32.ofNat (p + 1)) σ20 else if Int32.ofNat (nd ns p).1 = 4 then cV (f205 F (Int32.ofNat p) σ) fun σ23 => k24 (Int32.ofNat (sL ns p (p - 1)).length) (Int32.ofNat (p + 1)) σ23 else k24 (Int32.ofNat (sL ns p (p - 1)).length) (Int32.ofNat (p + 1)) σ) := by
    unfold f197_77 f197_146
    rw [if_pos i1, ltE, if_pos i1, ltE, if_pos i1, ltE, q1, (ht.2 p hp).1.1, oN_p1]
  unfold bgL
  by_cases k1 : (nd ns p).1 = 1
  · rw [st, if_pos (show Int32.ofNat (nd ns p).1 = 1 by rw [k1]; rfl), if_pos k1, es]
    obtain ⟨τ, a1, a2, a3⟩ := f201_e (F := F) hF hs hw hol hp k1 σ w s ch ht h
    have a1' : f201 F (Int32.ofNat p) σ = oV τ := a1
    have htτ := a2.m ht
    have hkτ := stk.fr (a2.1 1340 (by decide)) _ hk
    rw [a1', cVo, f204_e (by omega) htτ hs.1 hp, cIo]
    by_cases k2 : hCh ns p
    · rw [decide_eq_true k2, if_neg (show ¬ b2i true = 0 by decide), if_pos (oN_rg (by omega) (by decide)), ltE, oN_n (by omega), oN_p1, if_pos (show hasC ns p from ⟨k1, k2⟩)]
      refine ⟨_, rfl, a2.v.trans ⟨fun a _ h2 => u_ne h2, fun j _ _ => by rw [u_ne (by decide)], rfl⟩, ?_, u_eq, stk.push _ (Nat.le_refl _) hkτ⟩
      exact ⟨by rw [u_ne (by decide)]; exact a3.1, by rw [u_ne (by decide)]; exact a3.2.1, by rw [u_ne (by decide)]; exact a3.2.2⟩
    · rw [decide_eq_false k2, if_pos b2i_f, if_neg (show ¬ hasC ns p from fun g => k2 g.2)]
      exact ⟨τ, rfl, a2.v, a3, hkτ⟩
  · rw [st, if_neg (fun g => k1 ((oE1 (by omega)).mp g)), if_neg k1, es, if_neg (show ¬ hasC ns p from fun g => k1 g.1)]
    by_cases k3 : (nd ns p).1 = 3
    · rw [if_pos (show Int32.ofNat (nd ns p).1 = 3 by rw [k3]; rfl), if_pos k3]
      obtain ⟨τ, a1, a2, a3⟩ := f202_e (F := F) hF hs (hol p hp) hp σ w s ch ht h
      have a1' : f202 F (Int32.ofNat p) σ = oV τ := a1
      rw [k3, show txL 3 (nd ns p).2.2.2 = escL 3 (nd ns p).2.2.2 from if_neg (by decide)] at a3
      rw [a1', cVo]
      exact ⟨τ, rfl, a2.v, a3, stk.fr (a2.1 1340 (by decide)) _ hk⟩
    · rw [if_neg (fun g => k3 ((oE3 (by omega)).mp g)), if_neg k3]
      by_cases k4 : (nd ns p).1 = 4
      · rw [if_pos (show Int32.ofNat (nd ns p).1 = 4 by rw [k4]; rfl), if_pos k4]
        obtain ⟨τ, a1, a2, a3⟩ := f205_e (F := F) hF hs (hol p hp) hp k4 σ w s ch ht h
        have a1' : f205 F (Int32.ofNat p) σ = oV τ := a1
        rw [a1', cVo]
        exact ⟨τ, rfl, a2.v, a3, stk.fr (a2.1 1340 (by decide)) _ hk⟩
      · rw [if_neg (fun g => k4 ((oE4 (by omega)).mp g)), if_neg k4]
        exact ⟨σ, rfl, agW.refl.v, h, hk⟩
theorem f197_24_e {w : Int32} (hF : 5000 ≤ F) (hs : szOk ns) (hw : wf ns) (hol : ∀ i, i < ns.length → (nd ns i).2.2.2.length ≤ 4300) : ∀ (m k p : Nat) (σ : St) (s : Nat) (ch : Int32), 0 < p → p + m = ns.length → mTr σ ns → mP σ w s ch → stk σ (sL ns (p - 1) (p - 1)) → ∃ τ, f197_24 F (k + m + 1) (Int32.ofNat (sL ns (p - 1) (p - 1)).length) (Int32.ofNat p) σ = oI (pick w s ch (enL ns (p - 1) (p - 1) ++ prL ns m p)) τ ∧ agV σ τ := by
  have hn := hs.1.1
  intro m
  induction m with
  | zero =>
    intro k p σ s ch h0 hp ht h hk
    rw [f197_24.eq_2, ltE, ht.1, if_neg (fun g => by have := (oN_lt (by omega) (by omega)).mp g; omega)]
    obtain ⟨k2, hk2⟩ : ∃ k2, F = k2 + (p - 1) + 1 := ⟨F - (p - 1) - 1, by omega⟩
    have ep : p - 1 = ns.length - 1 := by omega
    have a0 := f197_152_e (F := F) (w := w) hF hs hw (p - 1) k2 σ s ch (by omega) ht h (by rw [← ep]; exact hk)
    rw [← hk2, ← ep] at a0
    obtain ⟨τ, a1, a2⟩ := a0
    refine ⟨τ, ?_, a2.v⟩
    rw [a1, show prL ns 0 p = [] from rfl, List.append_nil]
  | succ m ih =>
    intro k p σ s ch h0 hp ht h hk
    have hpl : p < ns.length := by omega
    rw [show k + (m + 1) + 1 = (k + m + 1) + 1 by omega, f197_24.eq_2, ltE, ht.1, if_pos ((oN_lt (by omega) (by omega)).mpr hpl)]
    obtain ⟨k2, hk2⟩ : ∃ k2, F = k2 + (p - 1) + 1 := ⟨F - (p - 1) - 1, by omega⟩
    have a0 := f197_32_e (F := F) (p := p - 1) (k24 := f197_24 F (k + m + 1)) (w := w) hF hs hw (by omega) (p - 1) k2 σ s ch (Nat.le_refl _) ht h hk
    rw [← hk2, show p - 1 + 1 = p by omega] at a0
    obtain ⟨τ, a1, a2, a3, a4⟩ := a0
    obtain ⟨υ, b1, b2, b3, b4⟩ := f197_77_e (F := F) (k24 := f197_24 F (k + m + 1)) hF hs hw hol hpl h0 (a2.m ht) a3 a4
    have i1 := ih k (p + 1) υ _ _ (by omega) (by omega) (b2.m (a2.m ht)) b3 (by rw [show p + 1 - 1 = p by omega]; exact b4)
    rw [show p + 1 - 1 = p by omega] at i1
    obtain ⟨φ, c1, c2⟩ := i1
    refine ⟨φ, ?_, (a2.v.trans b2).trans c2⟩
    have el : enL ns (p - 1) (p - 1) ++ prL ns (m + 1) p = enL ns (p - 1) (p - 1) ++ (bgL ns p ++ (enL ns p p ++ prL ns m (p + 1))) := by
      unfold prL
      rw [List.append_assoc]
      cases m <;> rfl
    rw [a1, b1, c1, el, pick_app (enL ns (p - 1) (p - 1)), pick_app (bgL ns p)]
theorem f197_e {x : Int32} {σ : St} (hF : 5000 ≤ F) (hs : szOk ns) (hw : wf ns) (hol : ∀ i, i < ns.length → (nd ns i).2.2.2.length ≤ 4300) (ht : mTr σ ns) : ∃ τ, f197 F x σ = oI (pick x 0 0 (prL ns (ns.length - 1) 1)) τ ∧ (∀ a, a ≠ 1315 → a ≠ 1340 → τ.1 a = σ.1 a) ∧ (∀ j, j ≠ 0 → j < 62 → τ.1 1315 j = σ.1 1315 j) ∧ τ.2 = σ.2 := by
  have hn := hs.1.1
  have hw1 := hw.1
  have e0 : ∀ a, a ≠ 1315 → (uI (uI (uI (uI σ 1315 0 0) 1315 62 x) 1315 63 0) 1315 64 0).1 a = σ.1 a := fun a ha => by rw [u_ne ha, u_ne ha, u_ne ha, u_ne ha]
  have ef : ∀ j, j ≠ 0 → j < 62 → (uI (uI (uI (uI σ 1315 0 0) 1315 62 x) 1315 63 0) 1315 64 0).1 1315 j = σ.1 1315 j := fun j h1 h2 => by rw [u_at, if_neg (by omega), u_at, if_neg (by omega), u_at, if_neg (by omega), u_at, if_neg h1]
  have cp : mP (uI (uI (uI (uI σ 1315 0 0) 1315 62 x) 1315 63 0) 1315 64 0) x 0 0 := by
    refine ⟨?_, ?_, u_eq⟩
    · rw [u_at, if_neg (by decide), u_at, if_neg (by decide), u_eq]
    · rw [u_at, if_neg (by decide), u_eq]
      rfl
  have ht2 : mTr (uI (uI (uI (uI σ 1315 0 0) 1315 62 x) 1315 63 0) 1315 64 0) ns := ht.fr (fun a _ _ => e0 a (by omega)) (ef 3 (by decide) (by decide))
  obtain ⟨k, hk⟩ : ∃ k, F = k + (ns.length - 1) + 1 := ⟨F - (ns.length - 1) - 1, by omega⟩
  have a0 := f197_24_e (F := F) (w := x) hF hs hw hol (ns.length - 1) k 1 _ 0 0 (by omega) (by omega) ht2 cp trivial
  rw [← hk] at a0
  obtain ⟨τ, a1, a2⟩ := a0
  have a1' : f197_24 F F 0 1 (uI (uI (uI (uI σ 1315 0 0) 1315 62 x) 1315 63 0) 1315 64 0) = oI (pick x 0 0 (prL ns (ns.length - 1) 1)) τ := a1
  unfold f197
  rw [ltE, ltE, ltE, ltE, a1']
  exact ⟨τ, rfl, fun a h1 h2 => (a2.1 a h1 h2).trans (e0 a h1), fun j h1 h2 => (a2.2.1 j (by omega) (by omega)).trans (ef j h1 h2), a2.2.2⟩
end MPR
