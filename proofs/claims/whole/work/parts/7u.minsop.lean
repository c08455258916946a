/-! THE REFERENCE INSERTS -/
section MIN
variable {F base : Nat} {b cs : List Int32} {m ns : List Nd} {ds : List Md}
theorem f181_243_l {k218 : Int32 → Int32 → Int32 → Int32 → St → Rs} {y5 g y7 : Int32} (hF : 5000 ≤ F) (hlen : m.length = ds.length) (hd30 : ds.length ≤ 30) (hnd : ∀ d y, ds[d]? = some y → nd m d = toNd b cs base y) (hmk : allK 0 0 m) : ∀ (n k j e : Nat) (L : List Nd) (σ : St), 1 ≤ j → j + n = ds.length → σ.1 1315 22 = Int32.ofNat ds.length → (∀ d y, ds[d]? = some y → dNd σ d y (toNd b cs base y)) → nTr σ L e → good L → L.length + n ≤ 30 → e + (pF m m.length - pF m j) ≤ 4300 → ∃ τ e', f181_243 F k218 (k + n + 1) (Int32.ofNat base) y5 g y7 (Int32.ofNat j) σ = f181_282 F k218 (Int32.ofNat base) y5 g y7 τ ∧ agN σ τ ∧ nTr τ ((m.drop j).foldl addN L) e' ∧ e' + pF m j ≤ e + pF m m.length ∧ good ((m.drop j).foldl addN L) ∧ ((m.drop j).foldl addN L).length ≤ L.length + n := by
  intro n
  induction n with
  | zero =>
    intro k j e L σ h1 hj h22 hd h hg hL he
    rw [f181_243.eq_2, ltE, h22, if_neg (fun g => by have := (oN_lt (by omega) (by omega)).mp g; omega), List.drop_eq_nil_of_le (by omega), List.foldl_nil]
    exact ⟨σ, e, rfl, agN.refl, h, by rw [show j = m.length by omega]; exact Nat.le_refl _, hg, Nat.le_refl _⟩
  | succ n ih =>
    intro k j e L σ h1 hj h22 hd h hg hL he
    have hjl : j < ds.length := by omega
    have hjm : j < m.length := by omega
    obtain ⟨y, hy⟩ : ∃ y, ds[j]? = some y := ⟨ds[j], List.getElem?_eq_getElem hjl⟩
    have e1 := hnd j y hy
    have p1 := pF_s hjm
    have p2 : pF m (j + 1) ≤ pF m m.length := by
      unfold pF
      have h1 := wF_le (ns := m) (show j + 1 ≤ m.length by omega)
      have h2 := tF_le (ns := m) (show j + 1 ≤ m.length by omega)
      omega
    have kk := (hmk j (Nat.zero_le _) hjm).1
    have dd := hd j y hy
    rw [← e1] at dd
    obtain ⟨τ, e2, a1, a2, a3, a4⟩ := f177_s (F := F) (base := base) hF dd ⟨kk.2.2.2.2.1, kk.2.2.2.2.2.1⟩ (by rw [e1]; rfl) (by rw [e1]; rfl) (by omega) h ⟨by omega, hg.1⟩ hg.2 ⟨by have := kk.2.1; omega, by have := kk.2.2.2.1; omega⟩ (by omega)
    have al := addN_len (L := L) (x := nd m j)
    have hg2 : good (addN L (nd m j)) := ⟨addN_lv hg.1 ⟨by have := kk.2.1; omega, by have := kk.2.2.2.1; omega⟩, hg.2.add (fun g => (kk.2.2.2.2.2.2.1 g).2)⟩
    obtain ⟨υ, e3, b1, b2, b3, b4, b5, b6⟩ := ih k (j + 1) e2 (addN L (nd m j)) τ (by omega) (by omega) (by rw [a2.2.1 22 (by decide) (by decide)]; exact h22) (fun d y2 h2 => (hd d y2 h2).fr a2) a3 hg2 (by omega) (by omega)
    rw [drop_nd hjm, List.foldl_cons]
    refine ⟨υ, e3, ?_, a2.trans b2, b3, by omega, b5, by omega⟩
    rw [← b1, show k + (n + 1) + 1 = (k + n + 1) + 1 by omega, f181_243.eq_2, ltE, h22, if_pos ((oN_lt (by omega) (by omega)).mpr hjl), a1, cIo, if_neg (fun g => by have := (oE0 (by omega)).mp g; omega)]
    unfold f181_274
    rw [oN_p1]
/-- all that has been read -/
theorem f181_243_e {k218 : Int32 → Int32 → Int32 → Int32 → St → Rs} {y5 g y7 : Int32} {e : Nat} {L : List Nd} {σ : St} (hF : 5000 ≤ F) (hm0 : 0 < m.length) (hlen : m.length = ds.length) (hd30 : ds.length ≤ 30) (hnd : ∀ d y, ds[d]? = some y → nd m d = toNd b cs base y) (hmk : allK 0 0 m) (h22 : σ.1 1315 22 = Int32.ofNat ds.length) (hd : ∀ d y, ds[d]? = some y → dNd σ d y (toNd b cs base y)) (h : nTr σ L e) (hg : good L) (hL : L.length + m.length ≤ 30) (he : e + tot m ≤ 4300) : ∃ τ e', f181_243 F k218 F (Int32.ofNat base) y5 g y7 0 σ = f181_282 F k218 (Int32.ofNat base) y5 (Int32.ofNat ((addN L (nd m 0)).length - 1)) y7 τ ∧ agN σ τ ∧ nTr τ (m.foldl addN L) e' ∧ e' ≤ e + tot m ∧ good (m.foldl addN L) ∧ (m.foldl addN L).length ≤ L.length + m.length := by
  obtain ⟨y, hy⟩ : ∃ y, ds[0]? = some y := ⟨ds[0], List.getElem?_eq_getElem (by omega)⟩
  have e1 := hnd 0 y hy
  have p1 : pF m 1 = pF m 0 + (nd m 0).2.2.1.length + (nd m 0).2.2.2.length := pF_s hm0
  have p3 := pF_le (ns := m) (Nat.le_refl _)
  have p4 : pF m 0 = 0 := rfl
  have p2 : pF m 1 ≤ pF m m.length := by
    unfold pF
    have h1 := wF_le (ns := m) (show 1 ≤ m.length by omega)
    have h2 := tF_le (ns := m) (show 1 ≤ m.length by omega)
    omega
  have kk := (hmk 0 (Nat.zero_le _) hm0).1
  have dd := hd 0 y hy
  rw [← e1] at dd
  obtain ⟨τ, e2, a1, a2, a3, a4⟩ := f177_s (F := F) (base := base) hF dd ⟨kk.2.2.2.2.1, kk.2.2.2.2.2.1⟩ (by rw [e1]; rfl) (by rw [e1]; rfl) (by omega) h ⟨by omega, hg.1⟩ hg.2 ⟨by have := kk.2.1; omega, by have := kk.2.2.2.1; omega⟩ (by omega)
  have al := addN_len (L := L) (x := nd m 0)
  have hg2 : good (addN L (nd m 0)) := ⟨addN_lv hg.1 ⟨by have := kk.2.1; omega, by have := kk.2.2.2.1; omega⟩, hg.2.add (fun g => (kk.2.2.2.2.2.2.1 g).2)⟩
  obtain ⟨k, hk⟩ : ∃ k, F = (k + (ds.length - 1) + 1) + 1 := ⟨F - 2 - (ds.length - 1), by omega⟩
  obtain ⟨υ, e3, b1, b2, b3, b4, b5, b6⟩ := f181_243_l (F := F) (k218 := k218) (y5 := y5) (g := Int32.ofNat ((addN L (nd m 0)).length - 1)) (y7 := y7) hF hlen hd30 hnd hmk (ds.length - 1) k 1 e2 (addN L (nd m 0)) τ (by omega) (by omega) (by rw [a2.2.1 22 (by decide) (by decide)]; exact h22) (fun d y2 h2 => (hd d y2 h2).fr a2) a3 hg2 (by omega) (by omega)
  have em : m = nd m 0 :: m.drop 1 := by
    have := drop_nd hm0
    rw [List.drop_zero] at this
    exact this
  have ef : m.foldl addN L = (m.drop 1).foldl addN (addN L (nd m 0)) := by
    conv => lhs; rw [em]
    rw [List.foldl_cons]
  rw [ef]
  have a1' : f177 F 0 (Int32.ofNat base) σ = oI (Int32.ofNat ((addN L (nd m 0)).length - 1)) τ := a1
  refine ⟨υ, e3, ?_, a2.trans b2, b3, by omega, b5, by omega⟩
  have z : ∀ G, G = (k + (ds.length - 1) + 1) + 1 → f181_243 F k218 G (Int32.ofNat base) y5 g y7 0 σ = f181_243 F k218 (k + (ds.length - 1) + 1) (Int32.ofNat base) y5 (Int32.ofNat ((addN L (nd m 0)).length - 1)) y7 (Int32.ofNat 1) τ := fun G hG => by
    rw [hG, f181_243.eq_2, ltE, h22, if_pos (show (0 : Int32) < Int32.ofNat ds.length from (oN_lt (p := 0) (by decide) (by omega)).mpr (by omega)), a1', cIo, if_pos (by rfl)]
    unfold f181_274
    rfl
  rw [z F hk, b1]
theorem f181_208_e {a p : Nat} {σ : St} (hF : 5000 ≤ F) (hb : b.length ≤ 120) (hc : cs.length ≤ 120) (h : mTr σ ns) (hw : wf ns) (hl : lvOk ns) (hp : plc ns a base) (hm : pce m base) (hrd : mRd σ b p ds cs) (hr : rel b base [] m ds cs) (hlen : ns.length + m.length ≤ 30) (ht : tot ns + tot m ≤ 4300) : ∃ τ, f181_208 F (Int32.ofNat base) (Int32.ofNat a) σ = oI (Int32.ofNat (if jnb (jnO (insL ns a m) a) (a - 1) then a - 1 else a)) τ ∧ agQ σ τ ∧ mTr τ (inO ns a m) ∧ τ.1 1315 34 = 0 ∧ bufM τ [] ∧ τ.1 1315 0 = σ.1 1315 0 := by
  have hl1 := hl.1
  have hm0 := hm.1
  have hpa := hp.1
  have hpl := hp.2.1
  have dl := hr.len
  rw [List.length_nil, Nat.zero_add] at dl
  have hnd : ∀ d y, ds[d]? = some y → nd m d = toNd b cs base y := fun d y hy => by
    have k := hr.nd hy
    rw [List.length_nil, Nat.zero_add] at k
    exact k
  have fo := in_fold hw hp hm
  have wn := in_wf hw hp hm
  have lt : (ns.take a).length = a := by rw [List.length_take]; omega
  have o0 : oldT σ ns := ⟨h.1, fun i hi => (h.2 i hi).1⟩
  have g0 : agN σ (uI (uI σ 1315 13 0) 1315 14 0) := (agN.refl.uF (Or.inl rfl)).uF (Or.inr rfl)
  have n0 : nTr (uI (uI σ 1315 13 0) 1315 14 0) [] 0 := nTr_nil (by rw [u_at, if_neg (by decide), u_eq]) u_eq
  have pl := pF_le (ns := ns) (Nat.le_refl _)
  have pa : pF ns a ≤ pF ns ns.length := by
    unfold pF
    have h1 := wF_le (ns := ns) hpl
    have h2 := tF_le (ns := ns) hpl
    omega
  have p00 : pF ns 0 = 0 := rfl
  unfold f181_208 f173
  rw [ltE, ltE, cVo]
  generalize uI (uI σ 1315 13 0) 1315 14 0 = σ0 at g0 n0 ⊢
  have o1 := o0.fr g0
  have G1 := keep (F := F) (s0 := 0) (s1 := a) (ns := ns) (G := fun k q σ => f181_218 F k (Int32.ofNat base) (Int32.ofNat a) 0 (Int32.ofNat q) σ) hF hw hl (fun k q σ τ _ hq ho _ hf => by
    rw [f181_218.eq_2, ltE, ho.1, if_neg (fun g => by have := (oN_lt (by omega) (by omega)).mp g; omega), if_neg (fun g => by have := (oN_eq (by omega) (by omega)).mp g; omega)]
    unfold f181_282 f181_297
    rw [ltE, ho.1, if_pos ((oN_lt (by omega) (by omega)).mpr (by omega)), hf, cVo, oN_p1]) hpl a (F - a) 0 0 [] σ0 (Nat.le_refl _) (by omega) o1 n0 good_nil (by rw [List.length_nil]; omega) (by rw [show 0 + a = a by omega]; omega)
  rw [Nat.zero_add, List.drop_zero, show F - a + a = F by omega] at G1
  obtain ⟨σ1, e1, a1, a2, a3, a4, a5, a6⟩ := G1
  have f1 : (ns.take a).foldl addN [] = ns.take a := by
    rw [fold_A (ns.take a) [] (fun _ g => absurd g.2.1 (by decide)) (fun i hi => by
      rw [List.length_take] at hi
      rw [ndTake, ndTake, if_pos (by omega), if_pos (by omega)]
      exact hw.2.2.1.nj i (by omega)), List.nil_append]
  rw [f1] at a3 a5 a6
  have a1' : f181_218 F F (Int32.ofNat base) (Int32.ofNat a) 0 0 σ0 = f181_218 F (F - a) (Int32.ofNat base) (Int32.ofNat a) 0 (Int32.ofNat a) σ1 := a1
  have o2 := o1.fr a2
  have g1 := g0.trans a2
  obtain ⟨F1, hF1⟩ : ∃ F1, F - a = F1 + 1 := ⟨F - a - 1, by omega⟩
  obtain ⟨σ2, e2, b1, b2, b3, b4, b5, b6⟩ := f181_243_e (F := F) (k218 := f181_218 F F1) (y5 := Int32.ofNat a) (g := σ1.1 1315 13) (y7 := Int32.ofNat a) (base := base) (b := b) (cs := cs) (m := m) (ds := ds) hF hm0 dl (by omega) hnd (fun i h1 h2 => ⟨(hm.2.2.1 i h1 h2).1, Nat.zero_le _⟩) (by rw [g1.2.1 22 (by decide) (by decide)]; exact hrd.2.2.2.1) (fun d y hy => (hrd.d hr hb hc hy).fr g1) a3 a5 (by rw [lt]; omega) (by omega)
  have o3 := o2.fr b2
  have nl : a + (ns.length - a) = ns.length := by omega
  have G2 := keep (F := F) (s0 := a) (s1 := ns.length) (ns := ns) (G := fun k q σ => f181_282 F (f181_218 F k) (Int32.ofNat base) (Int32.ofNat a) (Int32.ofNat ((addN (ns.take a) (nd m 0)).length - 1)) (Int32.ofNat q) σ) hF hw hl (fun k q σ τ hq hq2 ho ho2 hf => by
    unfold f181_282 f181_297
    rw [ltE, ho.1, if_pos ((oN_lt (by omega) (by omega)).mpr hq2), hf, cVo, oN_p1, f181_218.eq_2, ltE, ho2.1, if_neg (fun g => by have := (oN_lt (by omega) (by omega)).mp g; omega), if_neg (fun g => by have := (oN_eq (by omega) (by omega)).mp g; omega)]
    unfold f181_282 f181_297
    rw [ho2.1]) (Nat.le_refl _) (ns.length - a) (F1 - (ns.length - a)) a e2 (m.foldl addN (ns.take a)) σ2 (Nat.le_refl _) (by omega) o3 b3 b5 (by omega) (by rw [nl]; omega)
  rw [nl, show F1 - (ns.length - a) + (ns.length - a) = F1 by omega, show (ns.drop a).take (ns.length - a) = ns.drop a by rw [List.take_of_length_le (by rw [List.length_drop]; omega)], fo.1] at G2
  obtain ⟨σ3, e3, c1, c2, c3, c4, c5, c6⟩ := G2
  have c1' : f181_282 F (f181_218 F F1) (Int32.ofNat base) (Int32.ofNat a) (Int32.ofNat ((addN (ns.take a) (nd m 0)).length - 1)) (Int32.ofNat a) σ2 = f181_282 F (f181_218 F (F1 - (ns.length - a))) (Int32.ofNat base) (Int32.ofNat a) (Int32.ofNat ((addN (ns.take a) (nd m 0)).length - 1)) (Int32.ofNat ns.length) σ3 := c1
  have o4 := o3.fr c2
  obtain ⟨F2, hF2⟩ : ∃ F2, F1 - (ns.length - a) = F2 + 1 := ⟨F1 - (ns.length - a) - 1, by omega⟩
  obtain ⟨τ, d1, d2, d3, d4⟩ := f178_e hF c3 (by omega) ⟨by omega, c5.1⟩ wn.2.2.1 wn.ok
  have gn := (g1.trans b2).trans c2
  refine ⟨uI τ 1315 1 0, ?_, (gn.q.trans d2.q).uI (by decide), d3.fr (fun c _ _ => u_ne (by omega)) (by rw [u_at, if_neg (by decide)]), by rw [u_at, if_neg (by decide)]; exact d4, ⟨u_eq, fun i hi => absurd hi (Nat.not_lt_zero _)⟩, ?_⟩
  · rw [a1', hF1, f181_218.eq_2, ltE, o2.1, if_neg (fun g => by have := (oN_lt (by omega) (by omega)).mp g; omega), if_pos (by rfl), ltE, b1, c1', hF2]
    unfold f181_282 f181_297
    rw [ltE, o4.1, if_neg (fun g => by have := (oN_lt (by omega) (by omega)).mp g; omega), oN_p1, f181_218.eq_2, ltE, o4.1, if_pos ((oN_lt (by omega) (by omega)).mpr (by omega)), d1, cVo, ltE, fo.2]
  · rw [u_at, if_neg (by decide), d2.2.1 0 (by decide) (by decide), gn.2.1 0 (by decide) (by decide)]
end MIN
