/-! THE CLASS MEASURES ITS TREE -/
def tF (ns : List Nd) (i : Nat) : Nat := (flT (ns.take i)).length
def wF (ns : List Nd) (i : Nat) : Nat := (flW (ns.take i)).length
theorem take_nd {ns : List Nd} {i : Nat} (h : i < ns.length) : ns.take (i + 1) = ns.take i ++ [nd ns i] := by
  rw [List.take_add_one, nd_some h]
  rfl
section TFW
variable {ns : List Nd} {i : Nat}
theorem tF_s (h : i < ns.length) : tF ns (i + 1) = tF ns i + (if (nd ns i).1 = 3 then (nd ns i).2.2.2.length else 0) := by
  unfold tF
  rw [take_nd h, flT_snoc, List.length_append]
  unfold tOf
  split <;> rfl
theorem wF_s (h : i < ns.length) : wF ns (i + 1) = wF ns i + (nd ns i).2.2.1.length + (if (nd ns i).1 = 3 then 0 else (nd ns i).2.2.2.length) := by
  unfold wF
  rw [take_nd h, flW_snoc, List.length_append]
  unfold wOf
  rw [List.length_append]
  split
  · rw [List.length_nil]
    omega
  · omega
theorem tF_le {a c : Nat} (h : a ≤ c) : tF ns a ≤ tF ns c := by
  unfold tF
  obtain ⟨d, rfl⟩ : ∃ d, c = a + d := ⟨c - a, by omega⟩
  rw [List.take_add]
  unfold flT
  rw [List.map_append, List.flatten_append, List.length_append]
  omega
theorem wF_le {a c : Nat} (h : a ≤ c) : wF ns a ≤ wF ns c := by
  unfold wF
  obtain ⟨d, rfl⟩ : ∃ d, c = a + d := ⟨c - a, by omega⟩
  rw [List.take_add]
  unfold flW
  rw [List.map_append, List.flatten_append, List.length_append]
  omega
theorem tF_all : tF ns ns.length = (flT ns).length := by
  unfold tF
  rw [List.take_length]
theorem wF_all : wF ns ns.length = (flW ns).length := by
  unfold wF
  rw [List.take_length]
end TFW
/-- the tree is measured up to i -/
def mTo (σ : St) (ns : List Nd) (i : Nat) : Prop := (∀ j, j ≤ i → σ.1 1010 j = Int32.ofNat (tF ns j) ∧ σ.1 1011 j = Int32.ofNat (wF ns j)) ∧ ∀ j, j < i → σ.1 1008 j = par ns j ∧ σ.1 1009 j = Int32.ofNat (siz ns j)
def agT (σ τ : St) : Prop := (∀ a, a < 1008 ∨ 1011 < a → τ.1 a = σ.1 a) ∧ τ.2 = σ.2
theorem agT.refl {σ : St} : agT σ σ := ⟨fun _ _ => rfl, rfl⟩
theorem agT.trans {σ τ υ : St} (h : agT σ τ) (g : agT τ υ) : agT σ υ := ⟨fun a ha => (g.1 a ha).trans (h.1 a ha), g.2.trans h.2⟩
theorem agT.uI {σ τ : St} {a j : Nat} {x : Int32} (h : agT σ τ) (ha : 1008 ≤ a ∧ a ≤ 1011) : agT σ (uI τ a j x) := ⟨fun c hc => by rw [u_ne (by omega)]; exact h.1 c hc, h.2⟩
theorem agT.b {σ τ : St} {ns : List Nd} (h : agT σ τ) (g : bTr σ ns) : bTr τ ns := by
  refine ⟨by rw [h.1 1003 (by omega)]; exact g.1, fun i hi => ?_⟩
  rw [h.1 1004 (by omega), h.1 1005 (by omega), h.1 1006 (by omega), h.1 1007 (by omega)]
  exact g.2 i hi
def szOk (ns : List Nd) : Prop := lvOk ns ∧ (flT ns).length ≤ 4096 ∧ (flW ns).length ≤ 4096
section MES
variable {F : Nat} {ns : List Nd}
/-- one node -/
theorem f125_44_e {σ : St} {i z : Nat} {kk : Nat → Int32 → St → Rs} (hF : 500 ≤ F) (h : bTr σ ns) (hs : szOk ns) (hi : i < ns.length) (hm : mTo σ ns i) (hz : z = if (nd ns i).1 = 3 then (nd ns i).2.2.2.length else 0) : ∃ τ, f125_44 F kk 1003 (Int32.ofNat i) (Int32.ofNat z) σ = kk 1003 (Int32.ofNat (i + 1)) τ ∧ agT σ τ ∧ mTo τ ns (i + 1) := by
  have hl := hs.1
  have hl1 := hl.1
  have t1 := tF_s hi
  have w1 := wF_s hi
  have t2 := tF_le (ns := ns) (show i + 1 ≤ ns.length by omega)
  have w2 := wF_le (ns := ns) (show i + 1 ≤ ns.length by omega)
  rw [tF_all] at t2
  rw [wF_all] at w2
  have s1 := hs.2.1
  have s2 := hs.2.2
  rw [← hz] at t1
  have i1 : inB (Int32.ofNat i) 31 := oN_rg (by omega) (by decide)
  have i2 : inB (Int32.ofNat i) 30 := oN_rg (by omega) (by decide)
  have i3 : inB (Int32.ofNat (i + 1)) 31 := oN_rg (by omega) (by decide)
  have q1 := oN_n (show i < 2147483648 by omega)
  have q2 := oN_n (show i + 1 < 2147483648 by omega)
  have hb := h.2 i hi
  unfold f125_44
  rw [oN_p1, if_pos i1, ltE, if_pos i3]
  simp only [q1, q2]
  rw [rfT.2.2.2.2.2.2.1, (hm.1 i (Nat.le_refl _)).1, oN_ad, ← t1, ltE]
  have a1 : agT σ (uI σ 1010 (i + 1) (Int32.ofNat (tF ns (i + 1)))) := agT.refl.uI (by decide)
  generalize e1 : uI σ 1010 (i + 1) (Int32.ofNat (tF ns (i + 1))) = σ1 at a1 ⊢
  have c1 : σ1.1 1011 i = Int32.ofNat (wF ns i) := by rw [← e1, u_ne (by decide)]; exact (hm.1 i (Nat.le_refl _)).2
  have b1 := a1.b h
  have hb1 := b1.2 i hi
  have ew : Int32.ofNat (wF ns i + (nd ns i).2.2.1.length + (nd ns i).2.2.2.length) - Int32.ofNat z = Int32.ofNat (wF ns (i + 1)) := by
    by_cases h3 : (nd ns i).1 = 3
    · rw [if_pos h3] at hz w1
      rw [oN_sb (by omega)]
      exact congrArg Int32.ofNat (by omega)
    · rw [if_neg h3] at hz w1
      rw [oN_sb (by omega)]
      exact congrArg Int32.ofNat (by omega)
  rw [if_pos i1, ltE, if_pos i2, ltE, if_pos i2, ltE, if_pos i3, rfT.2.2.2.2.2.2.2.1, rfT.2.2.1, rfT.2.2.2.1, c1, hb1.2.2.1, hb1.2.2.2, oN_ad, oN_ad, ew, ltE]
  have a2 := a1.uI (a := 1011) (j := i + 1) (x := Int32.ofNat (wF ns (i + 1))) (by decide)
  generalize e2 : uI σ1 1011 (i + 1) (Int32.ofNat (wF ns (i + 1))) = σ2 at a2 ⊢
  have b2 := a2.b h
  rw [f126_e hF b2 hl hi, cIo, if_pos i2, rfT.2.2.2.2.1, ltE]
  have a3 := a2.uI (a := 1008) (j := i) (x := par ns i) (by decide)
  generalize e3 : uI σ2 1008 i (par ns i) = σ3 at a3 ⊢
  have b3 := a3.b h
  rw [f127_e hF b3 hl hi, cIo, if_pos i2, rfT.2.2.2.2.2.1, ltE]
  have a4 := a3.uI (a := 1009) (j := i) (x := Int32.ofNat (siz ns i)) (by decide)
  refine ⟨_, rfl, a4, fun j hj => ?_, fun j hj => ?_⟩
  · constructor
    · rw [u_ne (by decide), ← e3, u_ne (by decide), ← e2, u_ne (by decide), ← e1, u_at]
      by_cases hji : j = i + 1
      · rw [if_pos hji, hji]
      · rw [if_neg hji]
        exact (hm.1 j (by omega)).1
    · rw [u_ne (by decide), ← e3, u_ne (by decide), ← e2, u_at]
      by_cases hji : j = i + 1
      · rw [if_pos hji, hji]
      · rw [if_neg hji, ← e1, u_ne (by decide)]
        exact (hm.1 j (by omega)).2
  · constructor
    · rw [u_ne (by decide), ← e3, u_at]
      by_cases hji : j = i
      · rw [if_pos hji, hji]
      · rw [if_neg hji, ← e2, u_ne (by decide), ← e1, u_ne (by decide)]
        exact (hm.2 j (by omega)).1
    · rw [u_at]
      by_cases hji : j = i
      · rw [if_pos hji, hji]
      · rw [if_neg hji, ← e3, u_ne (by decide), ← e2, u_ne (by decide), ← e1, u_ne (by decide)]
        exact (hm.2 j (by omega)).2
theorem f125_16_e (hF : 500 ≤ F) (hs : szOk ns) : ∀ (m k i : Nat) (σ : St), i + m = ns.length → bTr σ ns → mTo σ ns i → ∃ τ, f125_16 F (k + m + 1) 1003 (Int32.ofNat i) σ = oV τ ∧ agT σ τ ∧ mTo τ ns ns.length := by
  have hl := hs.1
  have hl1 := hl.1
  intro m
  induction m with
  | zero =>
    intro k i σ him h hm
    rw [f125_16.eq_2, ltE, h.1, if_neg (fun g => by have := (oN_lt (by omega) (by omega)).mp g; omega)]
    exact ⟨σ, rfl, agT.refl, by rw [← him]; exact hm⟩
  | succ m ih =>
    intro k i σ him h hm
    have hi : i < ns.length := by omega
    have hk := (hl.2 i hi).2
    have i2 : inB (Int32.ofNat i) 30 := oN_rg (by omega) (by decide)
    have q1 := oN_n (show i < 2147483648 by omega)
    have hb := h.2 i hi
    rw [show k + (m + 1) + 1 = (k + m + 1) + 1 by omega, f125_16.eq_2, ltE, h.1, if_pos ((oN_lt (by omega) (by omega)).mpr hi), if_pos i2, ltE]
    simp only [q1]
    rw [rfT.1, hb.1]
    by_cases h3 : (nd ns i).1 = 3
    · rw [h3, if_pos (by rfl), if_pos i2, rfT.2.2.2.1, hb.2.2.2, ltE]
      obtain ⟨τ, e1, a1, m1⟩ := f125_44_e (F := F) (kk := f125_16 F (k + m + 1)) (z := (nd ns i).2.2.2.length) hF h hs hi hm (by rw [if_pos h3])
      obtain ⟨υ, e2, a2, m2⟩ := ih k (i + 1) τ (by omega) (a1.b h) m1
      exact ⟨υ, e1.trans e2, a1.trans a2, m2⟩
    · rw [if_neg (fun g => h3 ((oE3 (by omega)).mp g))]
      obtain ⟨τ, e1, a1, m1⟩ := f125_44_e (F := F) (kk := f125_16 F (k + m + 1)) (z := 0) hF h hs hi hm (by rw [if_neg h3])
      obtain ⟨υ, e2, a2, m2⟩ := ih k (i + 1) τ (by omega) (a1.b h) m1
      exact ⟨υ, e1.trans e2, a1.trans a2, m2⟩
theorem f125_e {σ : St} (hF : 500 ≤ F) (hs : szOk ns) (h : bTr σ ns) : ∃ τ, f125 F 1003 σ = oV τ ∧ agT σ τ ∧ mTo τ ns ns.length := by
  have hl1 := hs.1.1
  have a1 : agT σ (uI (uI σ 1010 0 0) 1011 0 0) := (agT.refl.uI (by decide)).uI (by decide)
  have i1 : inB 0 31 := oN_rg (p := 0) (n := 31) (by decide) (by decide)
  unfold f125
  rw [if_pos i1, rfT.2.2.2.2.2.2.1, ltE, if_pos i1, rfT.2.2.2.2.2.2.2.1, ltE]
  show ∃ τ, f125_16 F F 1003 0 (uI (uI σ 1010 0 0) 1011 0 0) = oV τ ∧ agT σ τ ∧ mTo τ ns ns.length
  have m0 : mTo (uI (uI σ 1010 0 0) 1011 0 0) ns 0 := by
    refine ⟨fun j hj => ?_, fun j hj => by omega⟩
    rw [show j = 0 by omega]
    constructor
    · rw [u_ne (by decide), u_eq]
      rfl
    · rw [u_eq]
      rfl
  obtain ⟨k, hk⟩ : ∃ k, F = k + ns.length + 1 := ⟨F - ns.length - 1, by omega⟩
  have a2 := f125_16_e (F := F) hF hs ns.length k 0 _ (by omega) (a1.b h) m0
  rw [← hk] at a2
  obtain ⟨τ, e1, a3, m1⟩ := a2
  exact ⟨τ, e1, a1.trans a3, m1⟩
end MES
/-- the class's tree -/
def cTr (σ : St) (ns : List Nd) : Prop := bTr σ ns ∧ rowL σ 1014 (flW ns) ∧ rowL σ 1012 (flT ns) ∧ mTo σ ns ns.length
