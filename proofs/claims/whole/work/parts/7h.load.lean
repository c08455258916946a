/-! THE CLASS LOADS -/
def agL (σ τ : St) : Prop := (∀ a, a < 1000 ∨ 1029 < a → τ.1 a = σ.1 a) ∧ τ.2 = σ.2
theorem agL.trans {σ τ υ : St} (h : agL σ τ) (g : agL τ υ) : agL σ υ := ⟨fun a ha => (g.1 a ha).trans (h.1 a ha), g.2.trans h.2⟩
theorem agD.l {σ τ : St} (h : agD σ τ) : agL σ τ := ⟨fun a ha => h.1 a (by omega), h.2⟩
theorem agC.l {σ τ : St} (h : agC σ τ) : agL σ τ := ⟨fun a ha => h.1 a (by omega), h.2⟩
theorem agL.uI {σ τ : St} {a j : Nat} {x : Int32} (h : agL σ τ) (ha : 1000 ≤ a ∧ a ≤ 1029) : agL σ (uI τ a j x) := ⟨fun c hc => by rw [u_ne (by omega)]; exact h.1 c hc, h.2⟩
theorem cTr.fr {σ τ : St} {ns : List Nd} (h : cTr σ ns) (e : ∀ a, 1003 ≤ a → a ≤ 1015 → τ.1 a = σ.1 a) : cTr τ ns := by
  obtain ⟨h1, h2, h3, h4⟩ := h
  refine ⟨⟨by rw [e 1003 (by omega) (by omega)]; exact h1.1, fun i hi => ?_⟩, rowL_fr (e _ (by decide) (by decide)) (e _ (by decide) (by decide)) h2, rowL_fr (e _ (by decide) (by decide)) (e _ (by decide) (by decide)) h3, fun j hj => ?_, fun j hj => ?_⟩
  · rw [e 1004 (by omega) (by omega), e 1005 (by omega) (by omega), e 1006 (by omega) (by omega), e 1007 (by omega) (by omega)]
    exact h1.2 i hi
  · rw [e 1010 (by omega) (by omega), e 1011 (by omega) (by omega)]
    exact h4.1 j hj
  · rw [e 1008 (by omega) (by omega), e 1009 (by omega) (by omega)]
    exact h4.2 j hj
theorem mTr.fr {σ τ : St} {ns : List Nd} (h : mTr σ ns) (e : ∀ a, 1317 ≤ a → a ≤ 1325 → τ.1 a = σ.1 a) (e3 : τ.1 1315 3 = σ.1 1315 3) : mTr τ ns := by
  refine ⟨by rw [e3]; exact h.1, fun i hi => ⟨(h.2 i hi).1.fr (fun a h1 h2 => e a h1 (by omega)), ?_⟩⟩
  rw [e 1324 (by omega) (by omega), e 1325 (by omega) (by omega)]
  exact (h.2 i hi).2
section CLD
variable {F : Nat} {b : List Int32} {ns : List Nd} {σ : St}
theorem cTr_clear (h : cTr σ ns) : ∃ τ, f135 F 1003 σ = oV τ ∧ agC σ τ ∧ cTr τ [] := by
  have a1 : agC σ (uI (uI (uI σ 1012 1 0) 1014 1 0) 1003 10 0) := ((agC.refl.uI (by decide)).uI (by decide)).uI (by decide)
  refine ⟨_, ?_, a1, ⟨?_, fun i hi => absurd hi (Nat.not_lt_zero _)⟩, ⟨?_, fun i hi => absurd hi (Nat.not_lt_zero _)⟩, ⟨?_, fun i hi => absurd hi (Nat.not_lt_zero _)⟩, fun j hj => ?_, fun j hj => absurd hj (Nat.not_lt_zero _)⟩
  · unfold f135
    rw [rfT.2.2.2.2.2.2.2.2.1, rfT.2.2.2.2.2.2.2.2.2, f91_r, cVo, f91_r, cVo, ltE]
  · rw [u_eq]
    rfl
  · rw [u_ne (by decide), u_eq]
    rfl
  · rw [u_ne (by decide), u_ne (by decide), u_eq]
    rfl
  · have j0 : j = 0 := Nat.le_zero.mp hj
    have k := h.2.2.2.1 0 (Nat.zero_le _)
    rw [j0, u_ne (by decide), u_ne (by decide), u_ne (by decide), u_ne (by decide), u_ne (by decide), u_ne (by decide), k.1, k.2]
    exact ⟨rfl, rfl⟩
theorem szOk_nil : szOk [] := ⟨⟨by decide, fun i hi => absurd hi (Nat.not_lt_zero _)⟩, by decide, by decide⟩
theorem ins_nil {m : List Nd} : insL [] 0 m = m := by
  unfold insL
  simp
theorem szOk_of {p : Nat} {m : List Nd} {ws ts : List Int32} (hb : b.length ≤ 120) (hd : dOk p m ws ts) (hp : p ≤ b.length) (hm : m.length ≤ 30) (hk : ∀ i, i < m.length → (nd m i).2.1 ≤ 1000 ∧ (nd m i).1 ≤ 1000) : szOk m ∧ (flW m).length ≤ 120 ∧ (flT m).length ≤ 120 := by
  have h1 := hd.2.2.1
  have h2 := hd.2.2.2
  rw [hd.1] at h1
  rw [hd.2.1] at h2
  exact ⟨⟨⟨hm, hk⟩, by omega, by omega⟩, by omega, by omega⟩
theorem wf.lv {m : List Nd} (h : wf m) : ∀ i, i < m.length → (nd m i).2.1 ≤ 1000 ∧ (nd m i).1 ≤ 1000 := fun i hi => by
  by_cases c : i = 0
  · rw [c, h.2.1]
    exact ⟨by decide, by decide⟩
  · have k := (h.2.2.2 i (by omega) hi).1
    exact ⟨by have := k.2.2.2.1; omega, by have := k.2.1; omega⟩
theorem f21_e (hF : 5000 ≤ F) (hb : b.length ≤ 120) (hO : okB b) (hB : bufC σ b) (h : cTr σ ns) :
    match sDoc b with
    | .inl c => ∃ τ, f21 F σ = oT c τ ∧ agD σ τ
    | .inr m => ∃ τ, f21 F σ = oI (Int32.ofNat m.length) τ ∧ agL σ τ ∧ cTr τ m ∧ bufC τ [] ∧ τ.1 1000 7 = 0 ∧ szOk m ∧ tot m ≤ b.length := by
  have m0 := f105_e (F := F) hF hb hO hB
  unfold f21
  cases hq : sDoc b with
  | inl c =>
    rw [hq] at m0
    obtain ⟨τ, a1, a2⟩ := m0
    dsimp only
    rw [a1, cVt]
    exact ⟨τ, rfl, a2⟩
  | inr m =>
    have hw := sDoc_wf hO hq
    rw [hq] at m0
    obtain ⟨τ, p, ws, ts, a1, a2, a3, a4, a5, a6⟩ := m0
    dsimp only
    have hz := szOk_of hb a4 a6 a5 hw.lv
    rw [a1, cVo]
    have h1 : cTr τ ns := h.fr (fun a h1 h2 => a2.1 a (by omega))
    obtain ⟨τ2, b1, b2, b3⟩ := cTr_clear (F := F) h1
    rw [b1, cVo]
    have d2 : drf τ2 m (flW m) (flT m) := by
      have d1 := a3.2.2.2
      rw [a4.1, a4.2.1] at d1
      obtain ⟨e1, e2, e3, e4⟩ := d1
      refine ⟨by rw [b2.1 1016 (by omega)]; exact e1, rowL_fr (b2.1 _ (by omega)) (b2.1 _ (by omega)) e2, rowL_fr (b2.1 _ (by omega)) (b2.1 _ (by omega)) e3, fun i x hx => ?_⟩
      rw [b2.1 1017 (by omega), b2.1 1018 (by omega), b2.1 1019 (by omega), b2.1 1020 (by omega), b2.1 1024 (by omega)]
      exact e4 i x hx
    have c0 := f137_e (F := F) (a := 0) (m := m) (by omega) b3 szOk_nil d2 (Nat.le_refl _) (by rw [ins_nil]; exact hz.1) hz.2.1 hz.2.2
    rw [ins_nil] at c0
    obtain ⟨τ3, c1, c2, c3⟩ := c0
    have c1' : f137 F 1003 0 1016 τ2 = oV τ3 := c1
    rw [c1', cVo, f91_r, cVo, ltE, ltE]
    have ag : agL σ (uI (uI τ3 1001 1 0) 1000 7 0) := ((a2.l.trans (b2.l.trans c2.l)).uI (by decide)).uI (by decide)
    have c4 : cTr (uI (uI τ3 1001 1 0) 1000 7 0) m := c3.fr (fun a h1 h2 => by rw [u_ne (by omega), u_ne (by omega)])
    refine ⟨_, ?_, ag, c4, ⟨?_, fun j hj => absurd hj (Nat.not_lt_zero _)⟩, u_eq, hz.1, ?_⟩
    · rw [c4.1.1]
    · rw [u_ne (by decide), u_eq]
      rfl
    · exact sDoc_tot hO hq
end CLD
