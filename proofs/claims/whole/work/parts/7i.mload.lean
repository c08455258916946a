/-! THE REFERENCE LOADS -/
def agQ (σ τ : St) : Prop := (∀ a, a < 1315 → τ.1 a = σ.1 a) ∧ τ.2 = σ.2
theorem agQ.trans {σ τ υ : St} (h : agQ σ τ) (g : agQ τ υ) : agQ σ υ := ⟨fun a ha => (g.1 a ha).trans (h.1 a ha), g.2.trans h.2⟩
theorem agE.q {σ τ : St} (h : agE σ τ) : agQ σ τ := ⟨fun a ha => h.1 a (by omega), h.2.2⟩
theorem agN.q {σ τ : St} (h : agN σ τ) : agQ σ τ := ⟨fun a ha => h.1 a (by omega), h.2.2⟩
theorem agA.q {σ τ : St} (h : agA σ τ) : agQ σ τ := ⟨fun a ha => h.1 a (by omega), h.2.2⟩
theorem agQ.uI {σ τ : St} {a j : Nat} {x : Int32} (h : agQ σ τ) (ha : 1315 ≤ a) : agQ σ (uI τ a j x) := ⟨fun c hc => by rw [u_ne (by omega)]; exact h.1 c hc, h.2⟩
def pF (ns : List Nd) (i : Nat) : Nat := wF ns i + tF ns i
theorem pF_s {ns : List Nd} {i : Nat} (h : i < ns.length) : pF ns (i + 1) = pF ns i + (nd ns i).2.2.1.length + (nd ns i).2.2.2.length := by
  have h1 := wF_s h
  have h2 := tF_s h
  unfold pF
  by_cases c : (nd ns i).1 = 3
  · rw [if_pos c] at h1 h2
    omega
  · rw [if_neg c] at h1 h2
    omega
theorem pF_le {ns : List Nd} {i : Nat} (h : i ≤ ns.length) : pF ns i ≤ tot ns := by
  have h1 := wF_le (ns := ns) h
  have h2 := tF_le (ns := ns) h
  rw [wF_all] at h1
  rw [tF_all] at h2
  unfold pF tot
  omega
section DND
variable {b cs : List Int32} {σ : St} {p base : Nat} {pre ns : List Nd} {ds : List Md}
theorem mRd.d {d : Nat} {y : Md} (h : mRd σ b p ds cs) (hr : rel b base pre ns ds cs) (hb : b.length ≤ 120) (hc : cs.length ≤ 120) (hy : ds[d]? = some y) : dNd σ d y (toNd b cs base y) := by
  have hm := hr.2 y (List.mem_of_getElem? hy)
  obtain ⟨k1, k2, k3, k4, k5, k6⟩ := h.2.2.2.2.2 d y hy
  have l1 : (stre b y.2.2.1 y.2.2.2.1).length = y.2.2.2.1 := stre_len hm.1
  have l2 : (stre cs y.2.2.2.2.1 y.2.2.2.2.2).length = y.2.2.2.2.2 := stre_len hm.2
  have m1 := hm.1
  have m2 := hm.2
  refine ⟨k1, k2, k3, k4, k5, k6, l1.symm, l2.symm, by omega, by omega, fun t ht => ?_, fun t ht => ?_⟩
  · have ht2 : t < y.2.2.2.1 := by
      have : t < (stre b y.2.2.1 y.2.2.2.1).length := ht
      omega
    have e : (toNd b cs base y).2.2.1 = stre b y.2.2.1 y.2.2.2.1 := rfl
    rw [e, stre_at ht2, h.1.2 _ (by omega)]
  · have ht2 : t < y.2.2.2.2.2 := by
      have : t < (stre cs y.2.2.2.2.1 y.2.2.2.2.2).length := ht
      omega
    have e : (toNd b cs base y).2.2.2 = stre cs y.2.2.2.2.1 y.2.2.2.2.2 := rfl
    rw [e, stre_at ht2, h.2.2.2.2.1.2 _ (by omega)]
theorem rel.nd {d : Nat} {y : Md} (hr : rel b base pre ns ds cs) (hy : ds[d]? = some y) : nd ns (pre.length + d) = toNd b cs base y := by
  rw [hr.1]
  apply nd_of
  rw [List.getElem?_append_right (by omega), show pre.length + d - pre.length = d by omega, List.getElem?_map, hy]
  rfl
end DND
theorem nTr_nil {σ : St} (h1 : σ.1 1315 13 = 0) (h2 : σ.1 1315 14 = 0) : nTr σ [] 0 := ⟨h1, h2, fun i hi => absurd hi (Nat.not_lt_zero _)⟩
theorem lvOk.take {ns : List Nd} {i : Nat} (h : lvOk ns) : lvOk (ns.take i) := by
  refine ⟨by rw [List.length_take]; have := h.1; omega, fun j hj => ?_⟩
  rw [List.length_take] at hj
  rw [ndTake, if_pos (by omega)]
  exact h.2 j (by omega)
theorem wf.ok {m : List Nd} (h : wf m) : okN m := fun i hi => by
  by_cases c : i = 0
  · rw [c, h.2.1]
    exact ⟨okB_nil, okB_nil⟩
  · have k := (h.2.2.2 i (by omega) hi).1
    exact ⟨k.2.2.2.2.1, k.2.2.2.2.2.1⟩
/-- a list without texts side by side: nothing is joined -/
theorem no_mg {m : List Nd} {i : Nat} (h : chOk m) (hi : i < m.length) : ¬ mgb (m.take i) (nd m i) := by
  intro g
  have l1 : (m.take i).length = i := by rw [List.length_take]; omega
  obtain ⟨g1, g2, g3, g4⟩ := g
  rw [l1] at g2 g3 g4
  rw [ndTake, if_pos (by omega)] at g3 g4
  have k := (h (i - 1) (by omega)).2.2.2
  rw [show i - 1 + 1 = i by omega] at k
  exact k ⟨g3, g1, g4⟩
section MLD
variable {F : Nat} {b cs : List Int32} {m : List Nd} {ds : List Md}
theorem f147_32_e (hF : 5000 ≤ F) (hm : wf m) (hl : lvOk m) (ht : tot m ≤ 4300) (hlen : m.length = ds.length + 1) (hnd : ∀ d y, ds[d]? = some y → nd m (d + 1) = toNd b cs 1 y) : ∀ (n k j : Nat) (σ : St), j + n = ds.length → σ.1 1315 22 = Int32.ofNat ds.length → (∀ d y, ds[d]? = some y → dNd σ d y (toNd b cs 1 y)) → nTr σ (m.take (j + 1)) (pF m (j + 1)) → ∃ τ, f147_32 F (k + n + 1) (Int32.ofNat j) σ = oI (Int32.ofNat m.length) τ ∧ agQ σ τ ∧ mTr τ m ∧ bufM τ [] ∧ τ.1 1315 34 = 0 ∧ τ.1 1315 0 = σ.1 1315 0 := by
  have hl1 := hl.1
  intro n
  induction n with
  | zero =>
    intro k j σ hj h22 hd h
    rw [show j + 1 = m.length by omega, List.take_length] at h
    have hp := pF_le (ns := m) (Nat.le_refl _)
    obtain ⟨τ, a1, a2, a3, a4⟩ := f178_e hF h (by omega) hl hm.2.2.1 hm.ok
    rw [f147_32.eq_2, ltE, h22, if_neg (fun g => by have := (oN_lt (by omega) (by omega)).mp g; omega), a1, cVo, ltE, ltE]
    have m1 : mTr (uI τ 1315 1 0) m := a3.fr (fun a h1 h2 => u_ne (by omega)) (by rw [u_at, if_neg (by decide)])
    refine ⟨_, by rw [m1.1], a2.q.uI (by decide), m1, ⟨u_eq, fun i hi => absurd hi (Nat.not_lt_zero _)⟩, by rw [u_at, if_neg (by decide)]; exact a4, by rw [u_at, if_neg (by decide)]; exact a2.2.1 0 (by decide) (by decide)⟩
  | succ n ih =>
    intro k j σ hj h22 hd h
    have hjl : j < ds.length := by omega
    obtain ⟨y, hy⟩ : ∃ y, ds[j]? = some y := ⟨ds[j], List.getElem?_eq_getElem hjl⟩
    have e1 := hnd j y hy
    have l1 : (m.take (j + 1)).length = j + 1 := by rw [List.length_take]; omega
    have hjm : j + 1 < m.length := by omega
    have hp := pF_le (ns := m) (show j + 1 + 1 ≤ m.length by omega)
    rw [pF_s hjm] at hp
    have kk := hl.2 (j + 1) hjm
    have oo := hm.ok (j + 1) hjm
    have a0 := f177_n (F := F) (base := 1) hF (hd j y hy) (by rw [← e1]; exact oo) rfl rfl (by omega) h hl.take (by rw [← e1]; exact ⟨kk.2, kk.1⟩) (by rw [← e1]; exact no_mg hm.2.2.1 hjm) (by rw [← e1]; omega)
    have a1 : f177 F (Int32.ofNat j) 1 σ = _ := a0
    have n1 := h.add (x := toNd b cs 1 y) endN_st
    have g1 : agN σ (endN σ (m.take (j + 1)).length (toNd b cs 1 y) (pF m (j + 1))) := endN_ag agN.refl
    rw [← e1, ← take_nd hjm, ← pF_s hjm] at n1
    rw [← e1] at a1 g1
    generalize endN σ (m.take (j + 1)).length (nd m (j + 1)) (pF m (j + 1)) = τ at a1 n1 g1
    obtain ⟨υ, b1, b2, b3, b4, b5, b6⟩ := ih k (j + 1) τ (by omega) (by rw [g1.2.1 22 (by decide) (by decide)]; exact h22) (fun d y2 h2 => (hd d y2 h2).fr g1) n1
    refine ⟨υ, ?_, g1.q.trans b2, b3, b4, b5, b6.trans (g1.2.1 0 (by decide) (by decide))⟩
    rw [← b1, show k + (n + 1) + 1 = (k + n + 1) + 1 by omega, f147_32.eq_2, ltE, h22, if_pos ((oN_lt (by omega) (by omega)).mpr hjl), a1, cIo, oN_p1]
end MLD
section MLE
variable {F : Nat} {b : List Int32} {ns : List Nd} {σ : St}
theorem f147_e (hF : 5000 ≤ F) (hb : b.length ≤ 120) (hO : okB b) (hB : bufM σ b) (h : mTr σ ns) (hw : wf ns) :
    match sDoc b with
    | .inl c => ∃ τ, f147 F σ = oI 0 τ ∧ agE σ (uI τ 1315 0 (σ.1 1315 0)) ∧ τ.1 1315 0 = wr c ∧ agQ σ τ ∧ mTr τ ns ∧ bufM τ b ∧ (∀ j, 33 < j → τ.1 1315 j = σ.1 1315 j)
    | .inr m => ∃ τ, f147 F σ = oI (Int32.ofNat m.length) τ ∧ agQ σ τ ∧ mTr τ m ∧ bufM τ [] ∧ τ.1 1315 34 = 0 ∧ τ.1 1315 0 = 0 := by
  have m0 := f148_e (F := F) hF hb hO hB
  unfold f147
  cases hq : sDoc b with
  | inl c =>
    rw [hq] at m0
    obtain ⟨τ, a1, a2, a3⟩ := m0
    dsimp only
    unfold f172
    rw [a1, cIo, if_pos (by rfl), ltE, a3, ltE, cIo]
    refine ⟨_, rfl, ?_, u_eq, a2.q.uI (by decide), ?_, ⟨?_, fun j hj => ?_⟩, fun j hj => ?_⟩
    · rw [uI_uI, show σ.1 1315 0 = τ.1 1315 0 from (a2.2.1 0 (by omega)).symm, uI_same rfl]
      exact a2
    · exact h.fr (fun a h1 h2 => by rw [u_ne (by omega)]; exact a2.1 a (by omega)) (by rw [u_at, if_neg (by decide)]; exact a2.2.1 3 (by omega))
    · rw [u_at, if_neg (by decide), a2.2.1 1 (by omega)]
      exact hB.1
    · rw [u_ne (by decide), a2.1 1316 (by omega)]
      exact hB.2 j hj
    · rw [u_at, if_neg (by omega)]
      exact a2.2.1 j (by omega)
  | inr m =>
    have hwm := sDoc_wf hO hq
    have htm := sDoc_tot hO hq
    rw [hq] at m0
    obtain ⟨τ, p, ds, cs, a1, a2, a3, a4, a5, a6, a7⟩ := m0
    dsimp only
    have hlm : lvOk m := ⟨a5, hwm.lv⟩
    have hlen := a4.len
    rw [List.length_cons, List.length_nil] at hlen
    unfold f173
    rw [a1, cIo, if_neg (show ¬ (1 : Int32) = 0 by decide), ltE, ltE, ltE, cVo]
    have g1 : agN (uI τ 1315 0 0) (uI (uI (uI τ 1315 0 0) 1315 13 0) 1315 14 0) := (agN.refl.uF (Or.inl rfl)).uF (Or.inr rfl)
    have n0 : nTr (uI (uI (uI τ 1315 0 0) 1315 13 0) 1315 14 0) [] 0 := nTr_nil (by rw [u_at, if_neg (by decide), u_eq]) u_eq
    have z0 : (uI τ 1315 0 0).1 1315 0 = 0 := u_eq
    have e0 : ∀ a, a ≠ 1315 → (uI τ 1315 0 0).1 a = τ.1 a := fun a ha => u_ne ha
    have e1 : ∀ j, j ≠ 0 → (uI τ 1315 0 0).1 1315 j = τ.1 1315 j := fun j hj => by rw [u_at, if_neg hj]
    have q0 : agQ σ (uI τ 1315 0 0) := a2.q.uI (by decide)
    generalize uI τ 1315 0 0 = σ1 at g1 n0 z0 e0 e1 q0 ⊢
    generalize uI (uI σ1 1315 13 0) 1315 14 0 = σ2 at g1 n0 ⊢
    have x0 : mNd σ2 0 doc0 := by
      have k := (h.2 0 hw.1).1
      rw [hw.2.1] at k
      exact k.fr (fun a h1 h2 => by rw [g1.1 a (by omega), e0 a (by omega)]; exact a2.1 a (by omega))
    have b0 := f174_n (F := F) (p := 0) hF x0 ⟨okB_nil, okB_nil⟩ (by decide) n0 ⟨by decide, fun i hi => absurd hi (Nat.not_lt_zero _)⟩ ⟨by decide, by decide⟩ (fun g => absurd g.1 (by decide)) (by decide)
    have b1 : f174 F 0 σ2 = _ := b0
    have n1 := n0.add (x := doc0) endN_st
    have g2 : agN σ1 (endN σ2 ([] : List Nd).length doc0 0) := endN_ag g1
    rw [b1, cVo]
    generalize endN σ2 ([] : List Nd).length doc0 0 = σ3 at n1 g2 ⊢
    have t1 : m.take (0 + 1) = [] ++ [doc0] := by
      rw [take_nd hwm.1, hwm.2.1]
      rfl
    have t2 : pF m (0 + 1) = 0 + doc0.2.2.1.length + doc0.2.2.2.length := by
      rw [pF_s hwm.1, hwm.2.1]
      rfl
    rw [← t1, ← t2] at n1
    have r22 : σ3.1 1315 22 = Int32.ofNat ds.length := by
      rw [g2.2.1 22 (by decide) (by decide), e1 22 (by decide)]
      exact a3.2.2.2.1
    obtain ⟨k, hk⟩ : ∃ k, F = k + ds.length + 1 := ⟨F - ds.length - 1, by omega⟩
    have c0 := f147_32_e (F := F) (b := b) (cs := cs) (ds := ds) hF hwm hlm (by omega) (by omega) (fun d y hy => by rw [Nat.add_comm]; exact a4.nd hy) ds.length k 0 σ3 (by omega) r22 (fun d y hy => by
      have k1 : dNd τ d y (toNd b cs 1 y) := a3.d a4 hb (by omega) hy
      have k2 : dNd σ1 d y (toNd b cs 1 y) := by
        unfold dNd
        rw [e0 1316 (by decide), e0 1333 (by decide), e0 1334 (by decide), e0 1335 (by decide), e0 1336 (by decide), e0 1337 (by decide), e0 1338 (by decide), e0 1339 (by decide)]
        exact k1
      exact k2.fr g2) n1
    rw [← hk] at c0
    obtain ⟨υ, c1, c2, c3, c4, c5, c6⟩ := c0
    exact ⟨υ, c1, (q0.trans g2.q).trans c2, c3, c4, c5, by rw [c6, g2.2.1 0 (by decide) (by decide)]; exact z0⟩
end MLE
