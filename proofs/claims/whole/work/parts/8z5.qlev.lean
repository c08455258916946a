/-! THE CLASS READS at every level; the call query of the class -/
section QLV
variable {F : Nat} {b : List Int32} {ns : List Nd}
def gOl (F : Nat) (b : List Int32) (ns : List Nd) (g : Int32 → St → Rs) (k : Nat) : Prop := ∀ j, j < k → gXr F b ns (3 * j + 1) g (4 - j) (opL ns b j)
theorem lv_X {g : Int32 → St → Rs} {k : Nat} (hF : 1000 ≤ F) (hq : qOk ns b) (h : gOl F b ns g k) : ∀ j, j < k → gXr F b ns (3 * (j + 1)) (f53 F g) (4 - j) (lev ns b (j + 1)).2 := fun j hj => f53_e hF hq.2.2.2 (h j hj) (opL_ok hq j)
theorem lv_P {g : Int32 → St → Rs} {k : Nat} (hF : 1000 ≤ F) (hq : qOk ns b) (h : gOl F b ns g k) : ∀ j, j ≤ k → j ≤ 4 → gPr b ns (3 * j) (f42 F g) (4 - j) (lev ns b (j + 1)).1 := by
  intro j hj h4
  have hn := hq.2.1.1.1
  refine f42_e hF hq.2.2.2 (by omega) (by omega) (fun hd => ?_) (fun hd p => ?_) (lev_ok hq j).2
  · have x := lv_X hF hq h (j - 1) (by omega)
    rw [show 4 - (j - 1) = 4 - j + 1 by omega, show j - 1 + 1 = j by omega] at x
    exact x
  · have : j = 0 := by omega
    subst this
    rfl
theorem lv_O {g : Int32 → St → Rs} {k : Nat} (hF : 1000 ≤ F) (hq : qOk ns b) (hk : k ≤ 4) (h : gOl F b ns g k) : gOl F b ns (f55 F g) (k + 1) := by
  intro j hj
  have hn := hq.2.1.1.1
  have hP : gPr b ns (3 * j) (f42 F g) (4 - j) (rdP ns b (lev ns b j).2) := lv_P hF hq h j (by omega) (by omega)
  refine f55_e hF hq.2.2.2 hq.2.2.1 (by omega) hP (rdP_ok (by omega) hq.1.1 (lev_ok hq j).2) (fun hd => ?_) (fun hd p => ?_) (lev_ok hq j).1 (fun hd => ?_) (fun hd p => ?_) (lev_ok hq j).2 (opL_ok hq j)
  · have x := (lv_P hF hq h (j - 1) (by omega) (by omega)).up 3
    rw [show 4 - (j - 1) = 4 - j + 1 by omega, show j - 1 + 1 = j by omega, show 3 * (j - 1) + 3 = 3 * j by omega] at x
    exact x
  · have : j = 0 := by omega
    subst this
    rfl
  · have x := lv_X hF hq h (j - 1) (by omega)
    rw [show 4 - (j - 1) = 4 - j + 1 by omega, show j - 1 + 1 = j by omega] at x
    exact x
  · have : j = 0 := by omega
    subst this
    rfl
theorem lv_r (hF : 1000 ≤ F) (hq : qOk ns b) : ∀ k e, k ≤ 5 → k ≤ e → gOl F b ns (r55 F e) k
  | 0, _, _, _ => fun j hj => absurd hj (Nat.not_lt_zero _)
  | k + 1, e, h5, he => by
    obtain ⟨e', rfl⟩ : ∃ e', e = e' + 1 := ⟨e - 1, by omega⟩
    have ih := lv_r hF hq k e' (by omega) (by omega)
    have x := lv_O hF hq (by omega) ih
    intro j hj σ p up us SM h1 h2 h3
    rw [r55.eq_2]
    exact x j hj σ p up us SM h1 h2 h3
/-- what a query leaves alone: all but the reader's cells -/
def aqZ (σ τ : St) : Prop := τ.2.2.2 = σ.2.2.2 ∧ ∀ A, ¬ (1030 ≤ A ∧ A < 1313) → τ.1 A = σ.1 A
theorem f41_e {σ : St} (hF : 1000 ≤ F) (hq : qOk ns b) (hB : bufC σ b) : (qry ns b = none → ∃ τ, f41 F σ = oT 10 τ ∧ aqZ σ τ) ∧ ∀ m, qry ns b = some m → ∃ (τ : St) (u2 s2 : Nat) (SM : Nat → Sm), f41 F σ = some (.inl (some (.ref 1193)), τ) ∧ aqZ σ τ ∧ cQP b τ b.length u2 s2 ∧ smOK ns m ∧ ptR b ns SM (rep b ns SM τ 12) τ 0 m 0 u2 0 s2 := by
  have hb := hq.2.2.2
  have x0 := lv_P hF hq (lv_r (F := F) hF hq 4 10 (by omega) (by omega)) 4 (Nat.le_refl _) (Nat.le_refl _)
  have c0 : cQP b (uI (uI (uI σ 1030 3 0) 1030 4 0) 1030 5 0) 0 0 0 := by
    refine ⟨hB.fr (by rw [u_ne (by decide), u_ne (by decide), u_ne (by decide)]) (by rw [u_ne (by decide), u_ne (by decide), u_ne (by decide)]), u_eq, ?_, ?_, Nat.zero_le _, by omega, by omega, fun i hi => absurd hi (Nat.not_lt_zero _)⟩
    · rw [u_at, if_neg (by decide), u_eq]
      rfl
    · rw [u_at, if_neg (by decide), u_at, if_neg (by decide), u_eq]
      rfl
  have a0 : aqP 0 0 σ (uI (uI (uI σ 1030 3 0) 1030 4 0) 1030 5 0) := ((aqP.mv (up := 0) (us := 0)).t0 aqP.mv).t0 aqP.mv
  have x := x0 _ 0 0 0 (fun _ _ => 0) c0 (Nat.le_refl _) (Nat.le_refl _)
  have hgP := (lev_ok hq 5).1
  unfold f41
  rw [ltE, ltE, ltE]
  rw [show (4 - 4 : Nat) = 0 from rfl, show (Int32.ofNat 0) = 0 from rfl] at x
  generalize uI (uI (uI σ 1030 3 0) 1030 4 0) 1030 5 0 = σ3 at c0 a0 x ⊢
  unfold qry
  cases hp : (lev ns b 5).1 0 with
  | none =>
    obtain ⟨τ, t1, t2⟩ := x.1 hp
    rw [t1, cRt]
    have := a0.t0 t2
    exact ⟨fun _ => ⟨τ, rfl, this.1, this.2.1⟩, fun m hm => by cases hm⟩
  | some z =>
    obtain ⟨τ, u2, s2, SM', t1, t2, t3, t4, t5, t6, t7, t8⟩ := x.2 z hp
    obtain ⟨z1, z2, z3⟩ := hgP _ _ (Nat.zero_le _) hp
    have az := a0.t0 t2.z
    rw [t1, cRo, if_pos (prt_f 0 (by decide)), ltE, t3.2.1, ltE, t3.1.1]
    dsimp only
    by_cases c : z.1 = b.length
    · rw [if_neg (show ¬ Int32.ofNat z.1 < Int32.ofNat b.length from fun q => by have := (oN_lt (by omega) (by omega)).mp q; omega), if_pos c]
      refine ⟨fun q => (by cases q), fun m hm => ?_⟩
      injection hm with hm
      subst hm
      rw [c] at t3
      exact ⟨τ, u2, s2, SM', rfl, ⟨az.1, az.2.1⟩, t3, z3, t6⟩
    · rw [if_pos ((oN_lt (by omega) (by omega)).mpr (by omega)), if_neg c]
      exact ⟨fun _ => ⟨τ, rfl, az.1, az.2.1⟩, fun m hm => by cases hm⟩
/-- the class's query -/
theorem f30_e {σ : St} {q : Nat} (hF : 20000 ≤ F) (hq : qOk ns b) (hB : bufC σ b) (ht : cTr σ ns) (hqn : q < ns.length) : (qry ns b = none → ∃ τ, f30 F (Int32.ofNat q) σ = oT 10 τ ∧ aqZ σ τ) ∧ ∀ m, qry ns b = some m → inN ns.length (m q) ∧ ∃ τ, f30 F (Int32.ofNat q) σ = oI (Int32.ofNat (cntB (m q) ns.length)) τ ∧ τ.2.2.2 = σ.2.2.2 ∧ (∀ A j, ¬ (1030 ≤ A ∧ A < 1313) → ¬ (A = 1000 ∧ j = 7) → ¬ (A = 1001 ∧ j = 1) → τ.1 A j = σ.1 A j) ∧ τ.1 1000 7 = m q ∧ τ.1 1001 1 = 0 := by
  have hn := hq.2.1.1.1
  have x := f41_e (F := F) (by omega) hq hB
  unfold f30
  rw [f128_y ht hn hqn, cIo, if_neg (show ¬ (1 : Int32) = 0 by decide)]
  refine ⟨fun hx => ?_, fun m hm => ?_⟩
  · obtain ⟨τ, t1, t2⟩ := x.1 hx
    rw [t1, cRt]
    exact ⟨τ, rfl, t2⟩
  · obtain ⟨τ, u2, s2, SM, t1, t2, t3, t4, t5⟩ := x.2 m hm
    have hs2 := t3.2.2.2.2.2.2.1
    have hI : eI b ns SM s2 τ := ⟨t3.1, ht.fr (fun a h1 h2 => t2.2 a (by omega)), fun i hi z hz hb => by rw [t3.2.2.2.2.2.2.2 i hi, bt_0] at hb; cases hb⟩
    obtain ⟨υ, v1, v2⟩ := f62_e (us := s2) (q := q) hF hq hs2 (show 12 ≤ 40 by decide) t5 t3.2.2.2.2.2.1 (Nat.le_refl _) hI
    have hin := t4 q hqn
    refine ⟨hin, uI (uI υ 1000 7 (m q)) 1001 1 0, ?_, ?_, fun A j h1 h2 h3 => ?_, ?_, u_eq⟩
    · rw [t1, cRo, if_pos (prt_f 0 (by decide)), show (1193 : Nat) = 1193 + 0 from rfl, v1, cIo, ltE, f91_r, cVo, ltE, u_ne (by decide), u_eq, f256_e, cIo, cnt_in hin (by omega)]
    · rw [xI2, xI2, v2.1, t2.1]
    · rw [xI1, if_neg h3, xI1, if_neg h2, v2.2.1 A (by omega), t2.2 A h1]
    · rw [u_ne (by decide), u_eq]
end QLV
