/-! the same, the reference; and the new name -/
section MTK
variable {F p q : Nat} {b : List Int32} {ns : List Nd} {σ : St}
theorem f188_21_e (hb : b.length ≤ 120) (hB : bufM σ b) (h : mTr σ ns) (hn : ns.length ≤ 30) (hq : q < ns.length) (hl : (nd ns q).2.2.1.length = b.length) : ∀ (m k j : Nat) (g : Bool), j + m = b.length → f188_21 F (k + m + 1) (Int32.ofNat q) (b2i g) (Int32.ofNat j) σ = oI (b2i (g && sam (nd ns q).2.2.1 0 b 0 j m)) σ := by
  have i1 : inB (Int32.ofNat q) 31 := oN_rg (by omega) (by decide)
  have q1 := oN_n (show q < 2147483648 by omega)
  obtain ⟨m1, m2, m3, m4, na, ta, m5, m6, m7, m8, m9, m10⟩ := (h.2 q hq).1
  intro m
  induction m with
  | zero =>
    intro k j g hj
    rw [f188_21.eq_2, ltE, hB.1, if_neg (fun g => by have := (oN_lt (by omega) (by omega)).mp g; omega), if_pos (b2i_z g)]
    unfold sam
    rw [Bool.and_true]
  | succ m ih =>
    intro k j g hj
    rw [show k + (m + 1) + 1 = (k + m + 1) + 1 by omega, f188_21.eq_2, ltE, hB.1, if_pos ((oN_lt (by omega) (by omega)).mpr (by omega))]
    cases g with
    | false =>
      rw [if_pos b2i_f, if_pos (Or.inl b2i_f), Bool.false_and]
    | true =>
      unfold f188_60 sam
      rw [if_neg (show ¬ b2i true = 0 by decide), if_pos i1, ltE]
      simp only [q1]
      rw [m5, oN_ad, if_pos (oN_rg (by omega) (by decide)), ltE, if_pos (oN_rg (by omega) (by decide)), ltE, oN_n (by omega), oN_n (by omega), m9 j (by omega), hB.2 j (by omega), oN_p1, Bool.true_and, Nat.zero_add]
      by_cases c : (nd ns q).2.2.1.getD j 0 = b.getD j 0
      · have i2 := ih k (j + 1) true (by omega)
        rw [Bool.true_and] at i2
        rw [if_pos c, decide_eq_true c, Bool.true_and]
        exact i2
      · have i2 := ih k (j + 1) false (by omega)
        rw [Bool.false_and] at i2
        rw [if_neg c, decide_eq_false c, Bool.false_and]
        exact i2
theorem f188_e (hF : 500 ≤ F) (hb : b.length ≤ 120) (hB : bufM σ b) (h : mTr σ ns) (hn : ns.length ≤ 30) (hq : q < ns.length) (hlen : (nd ns q).2.2.1.length ≤ 100000) : f188 F (Int32.ofNat q) σ = oI (b2i (decide ((nd ns q).2.2.1 = b))) σ := by
  have i1 : inB (Int32.ofNat q) 31 := oN_rg (by omega) (by decide)
  have q1 := oN_n (show q < 2147483648 by omega)
  have m3 := (h.2 q hq).1.2.2.1
  unfold f188 f188_18
  rw [if_pos i1, ltE]
  simp only [q1]
  rw [m3, ltE, hB.1]
  by_cases c : (nd ns q).2.2.1.length = b.length
  · obtain ⟨k, hk⟩ : ∃ k, F = k + b.length + 1 := ⟨F - b.length - 1, by omega⟩
    have a0 := f188_21_e (F := F) hb hB h hn hq c b.length k 0 true (by omega)
    rw [← hk, Bool.true_and, sam_iff (by omega) (by omega), stre_all] at a0
    have e1 : stre (nd ns q).2.2.1 0 b.length = (nd ns q).2.2.1 := by
      rw [← c]
      exact stre_all
    rw [e1] at a0
    rw [if_pos (by rw [c])]
    exact a0
  · rw [if_neg (fun g => c ((oN_eq (by omega) (by omega)).mp g)), decide_eq_false (fun g => c (by rw [g]))]
    obtain ⟨k, hk⟩ : ∃ k, F = k + 1 := ⟨F - 1, by omega⟩
    have z : ∀ G, G = k + 1 → f188_21 F G (Int32.ofNat q) 0 0 σ = oI 0 σ := fun G hG => by
      rw [hG, f188_21.eq_2, ltE, hB.1]
      by_cases c0 : (0 : Int32) < Int32.ofNat b.length
      · rw [if_pos c0, if_pos (by rfl), if_pos (Or.inl rfl)]
      · rw [if_neg c0, if_pos (Or.inl rfl)]
    exact z F hk
/-- the reference looks for the name among the other attributes -/
theorem f187_67_e (hF : 500 ≤ F) (hb : b.length ≤ 120) (hB : bufM σ b) (h : mTr σ ns) (hw : wf ns) (hl : lvOk ns) (hln : ∀ i, i < ns.length → (nd ns i).2.2.1.length ≤ 100000) (hp : p < ns.length) (hk : (nd ns p).1 = 2) : ∀ (m k q : Nat) (g : Bool), q + m = ns.length → ∃ g2 : Bool, f187_67 F (k + m + 1) (Int32.ofNat p) (b2i g) (Int32.ofNat q) σ = f187_137 F (Int32.ofNat p) (b2i g2) σ ∧ (g2 = true ↔ g = true ∧ ∀ i, q ≤ i → i < ns.length → ¬ (i ≠ p ∧ (nd ns i).1 = 2 ∧ par ns i = par ns p ∧ (nd ns i).2.2.1 = b)) := by
  have hn := hl.1
  have i1 : inB (Int32.ofNat p) 31 := oN_rg (by omega) (by decide)
  have q1 := oN_n (show p < 2147483648 by omega)
  intro m
  induction m with
  | zero =>
    intro k q g hq
    refine ⟨g, ?_, fun hg => ⟨hg, fun i h1 h2 => by omega⟩, fun hg => hg.1⟩
    rw [f187_67.eq_2, ltE, h.1, if_neg (fun g => by have := (oN_lt (by omega) (by omega)).mp g; omega)]
  | succ m ih =>
    intro k q g hq
    have hql : q < ns.length := by omega
    have bq := (hl.2 q hql).2
    have j1 : inB (Int32.ofNat q) 31 := oN_rg (by omega) (by decide)
    have r1 := oN_n (show q < 2147483648 by omega)
    cases g with
    | false =>
      refine ⟨false, ?_, fun hg => absurd hg (by decide), fun hg => absurd hg.1 (by decide)⟩
      rw [show k + (m + 1) + 1 = (k + m + 1) + 1 by omega, f187_67.eq_2, ltE, h.1, if_pos ((oN_lt (by omega) (by omega)).mpr hql), if_pos b2i_f]
    | true =>
      have st : f187_67 F (k + (m + 1) + 1) (Int32.ofNat p) (b2i true) (Int32.ofNat q) σ = f187_67 F (k + m + 1) (Int32.ofNat p) (b2i (!decide (q ≠ p ∧ (nd ns q).1 = 2 ∧ par ns q = par ns p ∧ (nd ns q).2.2.1 = b))) (Int32.ofNat (q + 1)) σ := by
        rw [show k + (m + 1) + 1 = (k + m + 1) + 1 by omega, f187_67.eq_2, ltE, h.1, if_pos ((oN_lt (by omega) (by omega)).mpr hql), if_neg (show ¬ b2i true = 0 by decide), if_pos i1, ltE]
        simp only [q1]
        rw [(h.2 p hp).1.1, hk, if_pos (by rfl)]
        unfold f187_125 f187_130 f183
        rw [oN_p1]
        by_cases c1 : q = p
        · rw [if_pos (by rw [c1]), decide_eq_false (fun g => g.1 c1)]
          rfl
        · rw [if_neg (fun g => c1 ((oN_eq (by omega) (by omega)).mp g)), if_pos j1, ltE]
          simp only [r1]
          rw [(h.2 q hql).1.1]
          by_cases c2 : (nd ns q).1 = 2
          · rw [c2, if_pos (by rfl), if_pos j1, ltE, (h.2 q hql).2.2, cIo, if_pos i1, ltE, q1, (h.2 p hp).2.2, cIo]
            by_cases c3 : par ns q = par ns p
            · rw [if_pos c3, f188_e hF hb hB h hn hql (hln q hql), cIo]
              by_cases c4 : (nd ns q).2.2.1 = b
              · rw [decide_eq_true c4, if_neg (show ¬ b2i true = 0 by decide), decide_eq_true ⟨c1, rfl, c3, c4⟩]
                rfl
              · rw [decide_eq_false c4, if_pos b2i_f, decide_eq_false (fun g => c4 g.2.2.2)]
                rfl
            · rw [if_neg c3, decide_eq_false (fun g => c3 g.2.2.1)]
              rfl
          · rw [if_neg (fun g => c2 ((oE2 (by omega)).mp g)), decide_eq_false (fun g => c2 g.2.1)]
            rfl
      obtain ⟨g2, a1, a2⟩ := ih k (q + 1) (!decide (q ≠ p ∧ (nd ns q).1 = 2 ∧ par ns q = par ns p ∧ (nd ns q).2.2.1 = b)) (by omega)
      refine ⟨g2, st.trans a1, ?_⟩
      rw [a2]
      constructor
      · rintro ⟨h1, h2⟩
        refine ⟨rfl, fun i h3 h4 g => ?_⟩
        by_cases c : i = q
        · rw [c] at g
          rw [decide_eq_true g] at h1
          exact absurd h1 (by decide)
        · exact h2 i (by omega) h4 g
      · rintro ⟨_, h2⟩
        refine ⟨?_, fun i h3 h4 => h2 i (by omega) h4⟩
        rw [decide_eq_false (h2 q (Nat.le_refl _) hql)]
        rfl
end MTK
/-- the new name of the last node -/
theorem f189_22_e {F : Nat} {b : List Int32} (hb : b.length ≤ 120) (hO : okB b) : ∀ (m k j e : Nat) (σ : St), j + m = b.length → bufM σ b → σ.1 1315 14 = Int32.ofNat e → e + m ≤ 4300 → f189_22 F (k + m + 1) (Int32.ofNat j) σ = oV (apP σ e (b.drop j)) := by
  intro m
  induction m with
  | zero =>
    intro k j e σ hj hB he h1
    rw [f189_22.eq_2, ltE, hB.1, if_neg (fun g => by have := (oN_lt (by omega) (by omega)).mp g; omega), List.drop_eq_nil_of_le (by omega), apP_nil he]
  | succ m ih =>
    intro k j e σ hj hB he h1
    have hjl : j < b.length := by omega
    obtain ⟨w, w1, w2, w3⟩ := hO j hjl
    have n1 : vp_nar .char (((b.getD j 0 : Int32).toUInt32 % 65536).toInt32) = b.getD j 0 := by
      rw [w3]
      exact chN_id w w2
    have i2 := ih k (j + 1) (e + 1) (uI (uI σ 1332 e (b.getD j 0)) 1315 14 (Int32.ofNat (e + 1))) (by omega) ⟨by rw [u_at, if_neg (by decide), u_ne (by decide)]; exact hB.1, fun i hi => by rw [u_ne (by decide), u_ne (by decide)]; exact hB.2 i hi⟩ u_eq (by omega)
    have ed : b.drop j = b.getD j 0 :: b.drop (j + 1) := by
      rw [List.drop_eq_getElem_cons hjl, getD_lt hjl]
    rw [show k + (m + 1) + 1 = (k + m + 1) + 1 by omega, f189_22.eq_2, ltE, hB.1, if_pos ((oN_lt (by omega) (by omega)).mpr hjl), ltE, he, if_pos (oN_rg (by omega) (by decide)), ltE, if_pos (oN_rg (by omega) (by decide)), ltE, oN_n (by omega), oN_n (by omega), hB.2 j hjl, n1, ltE, u_ne (by decide), he, oN_p1, oN_p1, ltE, i2, ed, apP_cons]
theorem f189_e {F e : Nat} {b : List Int32} {L : List Nd} {x : Nd} {σ : St} (hF : 500 ≤ F) (hb : b.length ≤ 120) (hO : okB b) (hB : bufM σ b) (hL : L.length < 31) (hx : x.1 ≠ 3) (h : nTr σ (L ++ [x]) e) (h1 : e + b.length ≤ 4300) : ∃ τ, f189 F (Int32.ofNat L.length) σ = oV τ ∧ agN σ τ ∧ nTr τ (L ++ [(x.1, x.2.1, b, x.2.2.2)]) (e + b.length) := by
  have i1 : inB (Int32.ofNat L.length) 31 := oN_rg hL (by decide)
  have q1 := oN_n (show L.length < 2147483648 by omega)
  unfold f189
  rw [ltE, h.2.1, if_pos i1, ltE]
  simp only [q1]
  rw [ltE, u_ne (by decide), hB.1, if_pos i1, ltE]
  have g1 : agN σ (uI (uI σ 1328 L.length (Int32.ofNat e)) 1329 L.length (Int32.ofNat b.length)) := (agN.refl.uA (by decide)).uA (by decide)
  obtain ⟨k, hk⟩ : ∃ k, F = k + b.length + 1 := ⟨F - b.length - 1, by omega⟩
  have a0 := f189_22_e (F := F) hb hO b.length k 0 e (uI (uI σ 1328 L.length (Int32.ofNat e)) 1329 L.length (Int32.ofNat b.length)) (by omega) ⟨by rw [u_ne (by decide), u_ne (by decide)]; exact hB.1, fun i hi => by rw [u_ne (by decide), u_ne (by decide)]; exact hB.2 i hi⟩ (by rw [u_ne (by decide), u_ne (by decide)]; exact h.2.1) h1
  rw [← hk, List.drop_zero] at a0
  have a1 : f189_22 F F 0 (uI (uI σ 1328 L.length (Int32.ofNat e)) 1329 L.length (Int32.ofNat b.length)) = _ := a0
  refine ⟨_, a1, apP_ag g1, ?_, apP_14, fun i hi => ?_⟩
  · rw [apP_f (by decide), u_ne (by decide), u_ne (by decide), h.1, List.length_append, List.length_append]
    rfl
  · rw [List.length_append, List.length_cons, List.length_nil] at hi
    obtain ⟨k1, k2, k3, k4, na, ta, k5, k6, k7, k8, k9, k10, k11⟩ := h.2.2 i (by rw [List.length_append, List.length_cons, List.length_nil]; omega)
    rw [nd_snoc] at k1 k2 k3 k4 k7 k8 k9 k10 k11
    rw [nd_snoc, apP_o (by decide) (by decide), apP_o (by decide) (by decide), apP_o (by decide) (by decide), apP_o (by decide) (by decide), apP_o (by decide) (by decide), apP_o (by decide) (by decide), u_ne (by decide), u_ne (by decide), u_at, u_ne (by decide), u_ne (by decide), u_ne (by decide), u_ne (by decide), u_ne (by decide), u_ne (by decide), u_at, u_ne (by decide), u_ne (by decide)]
    by_cases c1 : i < L.length
    · rw [if_pos c1] at k1 k2 k3 k4 k7 k8 k9 k10 k11 ⊢
      rw [if_neg (by omega), if_neg (by omega)]
      refine ⟨k1, k2, k3, k4, na, ta, k5, k6, by omega, by omega, fun j hj => ?_, fun j hj => ?_, fun hh => ?_⟩
      · rw [apP_p, if_neg (by omega), u_ne (by decide), u_ne (by decide)]
        exact k9 j hj
      · rw [apP_p, if_neg (by omega), u_ne (by decide), u_ne (by decide)]
        exact k10 j hj
      · rw [List.length_append, List.length_cons, List.length_nil] at hh
        omega
    · have c2 : i = L.length := by omega
      rw [if_neg c1, if_pos c2] at k1 k2 k3 k4 k7 k8 k9 k10 k11 ⊢
      rw [if_pos c2, if_pos c2]
      refine ⟨k1, k2, rfl, k4, e, ta, rfl, k6, by dsimp only; omega, by dsimp only; omega, fun j hj => ?_, fun j hj => ?_, fun _ g => absurd g hx⟩
      · dsimp only at hj
        rw [apP_p, if_pos (by omega), show e + j - e = j by omega]
      · dsimp only at hj
        rw [apP_p, if_neg (by omega), u_ne (by decide), u_ne (by decide)]
        exact k10 j hj
