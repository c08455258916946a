/-! evaluate, at every height -/
theorem i64_n {x : Nat} (h : x < 2147483648) : (Int32.ofNat x).toInt64 = eC (some (x : Int)) := by
  rw [t64, oN_i h]
  rfl
section EV3
variable {F us : Nat} {b : List Int32} {ns : List Nd} {SM : Nat → Sm} {g : Nat → Int32 → Int32 → Int32 → St → Rs} {k : Nat}
theorem f70_e (hF : 20000 ≤ F) (hq : qOk ns b) (hu : us ≤ 80) (hg : gEv g b ns SM us k) : gEv (f70 F g) b ns SM us (k + 1) := by
  intro σ a e lo hi sl sh n x t hr hh hs hI hn hx ht
  have hns := hq.2.1.1.1
  obtain ⟨h1, h2, h3⟩ := hr
  have put : ∀ {τ : St} {s : Nat} {o : Option Int}, 1 ≤ s → s ≤ 4 → τ.1 (1193 + a) 0 = Int32.ofNat s → aqE lo hi σ τ → memo ns SM us τ → aqE lo hi σ (uJ τ (1193 + a) 8 (eC o)) ∧ memo ns SM us (uJ τ (1193 + a) 8 (eC o)) ∧ valC (uJ τ (1193 + a) 8 (eC o)) b (1193 + a) (vN o) := by
    intro τ s o s1 s2 s3 s4 s5
    refine ⟨s4.tr hh (aqE.num h1.1 h1.2.1 ?_), s5, s, by omega, s3, Or.inl ⟨s2, rfl, uJ_at⟩⟩
    rw [s3]
    intro q
    have := (oE0 (by omega)).mp q
    omega
  rcases h3 with ⟨g0, g1, v, g2, g3⟩ | ⟨g0, g1, g2⟩ | ⟨g0, g1, g2⟩ | ⟨g0, g1, c, m, g2, g3, g4, g5⟩ | ⟨g0, c, e0, l, s, g1, g2, g3, g4, g5⟩ | ⟨g0, g1, f, z, g2, g3, g4, g5, g6⟩ | ⟨m, g1, g2⟩ | ⟨g0, g1, c, e1, g2, g3, g4⟩ | ⟨o, ho, g0, c, d, e1, e2, s, g1, g2, g3, g4, g5⟩
  · refine ⟨σ, ?_, aqE.rf, hI.2.2, 0, by omega, g0, Or.inl ⟨by omega, by rw [g3]; rfl, by rw [g3]; exact g2⟩⟩
    unfold f70
    rw [ltE, g0, if_neg (by decide), if_neg (by decide), if_neg (by decide), if_neg (by decide), if_neg (by decide), if_neg (by decide), if_neg (by decide), if_neg (by decide), if_neg (by decide), if_neg (by decide), if_neg (by decide)]
  · have p := put (τ := σ) (s := 1) (o := some (x : Int)) (by omega) (by omega) g0 aqE.rf hI.2.2
    refine ⟨_, ?_, p.1, p.2.1, by rw [g2]; exact p.2.2⟩
    unfold f70
    rw [ltE, g0, if_pos (by decide), ltE, i64_n (by omega)]
  · have p := put (τ := σ) (s := 2) (o := some (t : Int)) (by omega) (by omega) g0 aqE.rf hI.2.2
    refine ⟨_, ?_, p.1, p.2.1, by rw [g2]; exact p.2.2⟩
    unfold f70
    rw [ltE, g0, if_neg (by decide), if_pos (by decide), ltE, i64_n (by omega)]
  · have q := ptR_le g3
    obtain ⟨τ, t1, t2, t3⟩ := f63_e (q := n) hF hq hu hg g3 (by omega) hs hI
    have w : aqE lo hi σ τ := t2.wk (by omega) (Nat.le_refl _)
    have s3 : τ.1 (1193 + a) 0 = Int32.ofNat 3 := by
      rw [w.2.2.2.1 a (by omega) 0 (by omega)]
      exact g0
    have hcn := cntB_le (x := m n) ns.length
    have p := put (τ := τ) (s := 3) (o := some (cntB (m n) ns.length : Int)) (by omega) (by omega) s3 w t3
    refine ⟨_, ?_, p.1, p.2.1, by rw [g5]; exact p.2.2⟩
    unfold f70
    rw [ltE, g0, if_neg (by decide), if_neg (by decide), if_pos (by decide), g2, mRr, if_pos (prt_f c (by omega)), t1, cIo, f256_e, cIo, ltE, cnt_in (g4 n hn) (by omega), i64_n (by omega)]
  · have q := (rep_le g3).1
    have q2 := tch_le (fun a e l h s t g => (rep_le g).1) l _ _ _ _ _ g4
    obtain ⟨τ, t1, t2, t3⟩ := f71_e hF hq hu hg hn hx ht g1 g2 g3 g4 hh hs hI
    have s3 : τ.1 (1193 + a) 0 = Int32.ofNat 4 := by
      rw [t2.2.2.2.1 a (by omega) 0 (by omega)]
      exact g0
    have p := put (τ := τ) (s := 4) (o := sumO ns n x t ((false, e0) :: l) (some 0)) (by omega) (by omega) s3 t2 t3
    refine ⟨_, ?_, p.1, p.2.1, by rw [g5]; exact p.2.2⟩
    unfold f70
    rw [ltE, g0, if_neg (by decide), if_neg (by decide), if_neg (by decide), if_pos (by decide), t1, cJo, ltE]
  · refine ⟨σ, ?_, aqE.rf, hI.2.2, 5, by omega, g0, Or.inr (Or.inl ⟨rfl, by rw [g6]; rfl, f, z, g2, g3, g4, g5, by rw [g6]; rfl⟩)⟩
    unfold f70
    rw [ltE, g0, if_neg (by decide), if_neg (by decide), if_neg (by decide), if_neg (by decide), if_pos (by decide)]
  · have q := ptR_le g1
    have g0 := g1.2.2.2.1
    obtain ⟨τ, t1, t2, t3⟩ := f63_e (q := n) hF hq hu hg g1 (by omega) hs hI
    have s3 : τ.1 (1193 + a) 0 = Int32.ofNat 6 := by
      rw [t2.2.2.2.1 a (by omega) 0 (by omega)]
      exact g0
    refine ⟨uI τ (1193 + a) 9 (m n), ?_, t2.tr hh (aqE.set h1.1 h1.2.1 hh), fun i hi q hq2 hb => ?_, 6, by omega, by rw [u_at, if_neg (by decide)]; exact s3, Or.inr (Or.inr (Or.inl ⟨rfl, by rw [g2]; rfl, by rw [u_eq, g2]; rfl⟩))⟩
    · unfold f70
      rw [ltE, g0, if_neg (by decide), if_neg (by decide), if_neg (by decide), if_neg (by decide), if_neg (by decide), if_pos (by decide), t1, cIo, ltE]
    · rw [u_ne (by omega)] at hb
      rw [u_ne (by omega)]
      exact t3 i hi q hq2 hb
  · have q := (rep_le g3).1
    obtain ⟨τ, t1, t2, t3, t4⟩ := hg σ c e1 (lo + 1) hi sl sh n x t g3 (by omega) hs hI hn hx ht
    have w : aqE lo hi σ τ := t2.wk (by omega) (Nat.le_refl _)
    have s3 : τ.1 (1193 + a) 0 = Int32.ofNat 7 := by
      rw [w.2.2.2.1 a (by omega) 0 (by omega)]
      exact g0
    have v1 := (rep_le g3).2 n x t hn hx ht
    have nz : ¬ τ.1 (1193 + a) 0 = 0 := by
      rw [s3]
      decide
    have fin : ∀ z : Bool, valC (uJ τ (1193 + a) 8 (if z = true then 1 else 0)) b (1193 + a) (vB z) := by
      intro z
      refine ⟨7, by omega, s3, Or.inr (Or.inr (Or.inr ⟨by omega, rfl, ?_⟩))⟩
      rw [uJ_at]
      cases z <;> rfl
    refine ⟨uJ τ (1193 + a) 8 (if (!tru (e1 n x t)) = true then 1 else 0), ?_, w.tr hh (aqE.num h1.1 h1.2.1 nz), t3, by rw [g4]; exact fin _⟩
    unfold f70
    rw [ltE, g0, if_neg (by decide), if_neg (by decide), if_neg (by decide), if_neg (by decide), if_neg (by decide), if_neg (by decide), if_pos (by decide), g2, mRr, if_pos (prt_f c (by omega)), t1, cVo, w.ref, g2, mRr, if_pos (prt_f c (by omega)), mRr, if_pos (prt_f c (by omega)), f37_e hq.2.2.2 t4 v1, cIo]
    cases tru (e1 n x t) <;> rfl
  · have q1 := (rep_le g3).1
    have q2 := (rep_le g4).1
    have tail := f70_c hF hq hu hg hn hx ht ho g0 g1 g2 g3 g4 hh hs hI
    rw [g5]
    unfold f70
    rw [ltE, g0]
    rcases oc4 ho with rfl | rfl | rfl | rfl
    · rw [if_neg (by decide), if_neg (by decide), if_neg (by decide), if_neg (by decide), if_neg (by decide), if_neg (by decide), if_neg (by decide), if_pos (by decide)]
      exact tail
    · rw [if_neg (by decide), if_neg (by decide), if_neg (by decide), if_neg (by decide), if_neg (by decide), if_neg (by decide), if_neg (by decide), if_neg (by decide), if_pos (by decide)]
      exact tail
    · rw [if_neg (by decide), if_neg (by decide), if_neg (by decide), if_neg (by decide), if_neg (by decide), if_neg (by decide), if_neg (by decide), if_neg (by decide), if_neg (by decide), if_pos (by decide)]
      exact tail
    · rw [if_neg (by decide), if_neg (by decide), if_neg (by decide), if_neg (by decide), if_neg (by decide), if_neg (by decide), if_neg (by decide), if_neg (by decide), if_neg (by decide), if_neg (by decide), if_pos (by decide)]
      exact tail
theorem r70_e (hF : 20000 ≤ F) (hq : qOk ns b) (hu : us ≤ 80) : ∀ (k d : Nat), k ≤ d → gEv (r70 F d) b ns SM us k
  | 0, _, _ => fun σ a e lo hi sl sh n x t hr => hr.elim
  | k + 1, d, hd => by
    obtain ⟨e, rfl⟩ : ∃ e, d = e + 1 := ⟨d - 1, by omega⟩
    have ih := r70_e hF hq hu k e (by omega)
    have h := f70_e hF hq hu ih
    intro σ a e2 lo hi sl sh n x t h1 h2 h3 h4 h5 h6 h7
    rw [r70.eq_2]
    exact h σ a e2 lo hi sl sh n x t h1 h2 h3 h4 h5 h6 h7
/-- nodesOf -/
theorem f62_e (hF : 20000 ≤ F) (hq : qOk ns b) (hu : us ≤ 80) {a q lo hi sl sh k : Nat} {m : Sm} {σ : St} (hk : k ≤ 40) (hr : ptR b ns SM (rep b ns SM σ k) σ a m lo hi sl sh) (hh : hi ≤ 120) (hs : sh ≤ us) (hI : eI b ns SM us σ) : ∃ τ, f62 F (1193 + a) (Int32.ofNat q) σ = oI (m q) τ ∧ aqE lo hi σ τ := by
  obtain ⟨τ, t1, t2, _⟩ := f63_e (q := q) hF hq hu (r70_e hF hq hu k 40 hk) hr hh hs hI
  refine ⟨τ, ?_, t2⟩
  unfold f62
  rw [t1, cIo]
end EV3
