/-! THE CALL result -/
def rsS (x : Int32) : Nat → Nat → Int32 → Option Nat
  | 0, _, _ => none
  | m + 1, j, l => if bt x j = true then (if l = 0 then some j else rsS x m (j + 1) (l - 1)) else rsS x m (j + 1) l
theorem rsS_more {x : Int32} : ∀ (m d j : Nat) (l : Int32), (∀ i, j + m ≤ i → i < j + m + d → bt x i = false) → rsS x (m + d) j l = rsS x m j l := by
  intro m
  induction m with
  | zero =>
    intro d
    induction d with
    | zero => intro j l _; rfl
    | succ d ih =>
      intro j l h
      rw [show 0 + (d + 1) = (0 + d) + 1 by omega]
      unfold rsS
      rw [if_neg (by rw [h j (by omega) (by omega)]; decide)]
      have k := ih (j + 1) l (fun i h1 h2 => h i (by omega) (by omega))
      rw [k]
      rfl
  | succ m ih =>
    intro d j l h
    rw [show m + 1 + d = (m + d) + 1 by omega]
    unfold rsS
    rw [ih d (j + 1) (l - 1) (fun i h1 h2 => h i (by omega) (by omega)), ih d (j + 1) l (fun i h1 h2 => h i (by omega) (by omega))]
theorem rsS_neg {x : Int32} : ∀ (m j : Nat) (l : Int32), (∀ i, i < m → l ≠ Int32.ofNat i) → rsS x m j l = none := by
  intro m
  induction m with
  | zero => intro j l _; rfl
  | succ m ih =>
    intro j l h
    unfold rsS
    have n0 : ¬ l = 0 := h 0 (by omega)
    rw [if_neg n0, ih (j + 1) (l - 1) (fun i hi g => h (i + 1) (by omega) (by rw [← oN_p1, ← g, Int32.sub_add_cancel])), ih (j + 1) l (fun i hi => h i (by omega))]
    split <;> rfl
section ORS
variable {F c : Nat} {x y : Int32} {σ : St} {b : List Int32} {ns : List Nd}
theorem f32_4_e (h : σ.1 1000 7 = x) : ∀ (m k j : Nat) (l : Int32), j + m = 30 → f32_4 F (k + m + 1) l (Int32.ofNat j) σ = match rsS x m j l with
    | some q => oI (Int32.ofNat q) σ
    | none => oT 12 σ := by
  intro m
  induction m with
  | zero =>
    intro k j l hj
    rw [f32_4.eq_2, if_neg (show ¬ Int32.ofNat j < 30 from fun g => by have := (oN_lt (q := 30) (by omega) (by decide)).mp g; omega)]
    rfl
  | succ m ih =>
    intro k j l hj
    rw [show k + (m + 1) + 1 = (k + m + 1) + 1 by omega, f32_4.eq_2, if_pos (show Int32.ofNat j < 30 from (oN_lt (q := 30) (by omega) (by decide)).mpr (by omega)), ltE, h, f31_e (by omega), cIo]
    unfold f32_30 rsS
    rw [oN_p1, oN_mm]
    by_cases hb : bt x j = true
    · rw [hb, if_neg (show ¬ b2i true = 0 by decide), if_pos rfl]
      by_cases hl : l = 0
      · rw [if_pos hl, if_pos hl]
      · rw [if_neg hl, if_neg hl]
        exact ih k (j + 1) (l - 1) (by omega)
    · rw [if_neg hb]
      rw [Bool.not_eq_true] at hb
      rw [hb, if_pos b2i_f]
      exact ih k (j + 1) l (by omega)
theorem f247_9_e {n : Nat} (hn : n ≤ 30) (h3 : σ.1 1315 3 = Int32.ofNat n) (h34 : σ.1 1315 34 = 1) (h35 : σ.1 1315 35 = x) (hy : ¬ y < 0) : ∀ (m k j : Nat) (l : Int32), j + m = n → f247_9 F (k + m + 1) y l (Int32.ofNat j) σ = match rsS x m j l with
    | some q => oI (Int32.ofNat q) σ
    | none => oI 0 (uI σ 1315 0 1) := by
  intro m
  induction m with
  | zero =>
    intro k j l hj
    rw [f247_9.eq_2, ltE, h3, if_neg (fun g => by have := (oN_lt (by omega) (by omega)).mp g; omega)]
    unfold f172
    rw [ltE, cIo]
    rfl
  | succ m ih =>
    intro k j l hj
    rw [show k + (m + 1) + 1 = (k + m + 1) + 1 by omega, f247_9.eq_2, ltE, h3, if_pos ((oN_lt (by omega) (by omega)).mpr (by omega)), ltE, h34, if_neg (show ¬ (1 : Int32) = 0 by decide), if_neg hy, ltE, h35]
    unfold f247_49 rsS
    rw [oN_p1, oN_mm]
    by_cases hb : bt x j = true
    · rw [if_pos ((bt_m (by omega)).mpr hb), if_pos hb]
      by_cases hl : l = 0
      · rw [if_pos hl, if_pos hl]
      · rw [if_neg hl, if_neg hl]
        exact ih k (j + 1) (l - 1) (by omega)
    · rw [if_neg (fun g => hb ((bt_m (by omega)).mp g)), if_neg hb]
      exact ih k (j + 1) l (by omega)
theorem op_result (hF : 500 ≤ F) (h : Inv σ b ns c) : opR (f8 F x σ) (f247 F x) (fun τ => Inv τ b ns (c + 1)) := by
  have hn := h.2.1.2.2.2
  have hw := h.2.1.2.2.1
  have hm := h.2.1.2.1
  obtain ⟨k, hk⟩ : ∃ k, F = k + 30 + 1 := ⟨F - 31, by omega⟩
  obtain ⟨k2, hk2⟩ : ∃ k2, F = k2 + ns.length + 1 := ⟨F - ns.length - 1, by omega⟩
  have a0 := f32_4_e (F := F) (σ := σ) rfl 30 k 0 x (by omega)
  rw [← hk] at a0
  have a1 : f32 F x σ = match rsS (σ.1 1000 7) 30 0 x with
    | some q => oI (Int32.ofNat q) σ
    | none => oT 12 σ := a0
  unfold f8
  rw [a1]
  -- the reference raises
  have no : ∀ τ : St, τ.1 = σ.1 → (σ.1 1315 34 = 0 ∨ x < 0) → f247 F x τ = oI 0 (uI (uI τ 1315 0 0) 1315 0 1) := fun τ hτ hh => by
    have z : ∀ G, G = k2 + ns.length + 1 → f247_9 F G x x 0 (uI τ 1315 0 0) = oI 0 (uI (uI τ 1315 0 0) 1315 0 1) := fun G hG => by
      have e3 : (uI τ 1315 0 0).1 1315 3 = Int32.ofNat ns.length := by
        rw [u_at, if_neg (by decide), hτ]
        exact hm.1
      have e34 : (uI τ 1315 0 0).1 1315 34 = σ.1 1315 34 := by rw [u_at, if_neg (by decide), hτ]
      rw [hG, f247_9.eq_2, ltE, e3, if_pos (show (0 : Int32) < Int32.ofNat ns.length from (oN_lt (p := 0) (by decide) (by omega)).mpr hw.1), ltE, e34]
      unfold f172
      by_cases c : σ.1 1315 34 = 0
      · rw [if_pos c, ltE, cIo]
      · rw [if_neg c, if_pos (hh.elim (fun g => absurd g c) id), ltE, cIo]
    unfold f247
    rw [ltE]
    exact z F hk2
  have nope : rsS (σ.1 1000 7) 30 0 x = none → (σ.1 1315 34 = 0 ∨ x < 0) → opR (cHI (match rsS (σ.1 1000 7) 30 0 x with
    | some q => oI (Int32.ofNat q) σ
    | none => oT 12 σ) (fun c2 σ1 => if inB 0 1 then lt (uJ σ1 1361 (0 : Int32).toNatClampNeg ((c2 : Int32).toInt64)) fun σ3 => oI 0 σ3 else none) (fun e τ => if e = 12 then (fun σ5 => oI 1 σ5) τ else none)) (f247 F x) (fun τ => Inv τ b ns (c + 1)) := fun hr hh => by
    rw [hr]
    dsimp only
    rw [cHt, if_pos rfl]
    refine ⟨1, uX σ 12, 0, _, rfl, no (uX σ 12) rfl hh, u_eq, fun g => absurd g (by decide), ?_⟩
    exact (h.i (τ := uX σ 12) rfl (by omega) (h.2.2.2.2.x rfl (by decide))).th.th
  rcases h.2.2.2.1 with ⟨q1, q2⟩ | ⟨q1, q2, q3⟩
  · apply nope _ (Or.inl q1)
    rw [q2]
    have z := rsS_more (x := 0) 0 30 0 x (fun i _ _ => bt_0)
    exact z
  · by_cases hx : x < 0
    · apply nope _ (Or.inr hx)
      exact rsS_neg 30 0 x (fun i hi g => by rw [g] at hx; exact oN_nn (by omega) hx)
    · have e1 : rsS (σ.1 1000 7) 30 0 x = rsS (σ.1 1000 7) ns.length 0 x := by
        have z := rsS_more (x := σ.1 1000 7) ns.length (30 - ns.length) 0 x (fun i h1 h2 => q3 i (by omega) (by omega))
        rw [show ns.length + (30 - ns.length) = 30 by omega] at z
        exact z
      have ref : ∀ τ : St, τ.1 = σ.1 → f247 F x τ = match rsS (σ.1 1000 7) ns.length 0 x with
          | some q => oI (Int32.ofNat q) (uI τ 1315 0 0)
          | none => oI 0 (uI (uI τ 1315 0 0) 1315 0 1) := fun τ hτ => by
        have b0 := f247_9_e (F := F) (σ := uI τ 1315 0 0) (x := σ.1 1000 7) (y := x) (n := ns.length) hn (by rw [u_at, if_neg (by decide), hτ]; exact hm.1) (by rw [u_at, if_neg (by decide), hτ]; exact q1) (by rw [u_at, if_neg (by decide), hτ]; exact q2) hx ns.length k2 0 x (by omega)
        rw [← hk2] at b0
        unfold f247
        rw [ltE]
        exact b0
      rw [e1]
      cases hr : rsS (σ.1 1000 7) ns.length 0 x with
      | none =>
        dsimp only
        rw [cHt, if_pos rfl]
        have r1 := ref (uX σ 12) rfl
        rw [hr] at r1
        refine ⟨1, uX σ 12, 0, _, rfl, r1, u_eq, fun g => absurd g (by decide), ?_⟩
        exact (h.i (τ := uX σ 12) rfl (by omega) (h.2.2.2.2.x rfl (by decide))).th.th
      | some q =>
        dsimp only
        rw [cHo, if_pos in01, t0, ltE]
        have r1 := ref (uJ σ 1361 0 (Int32.ofNat q).toInt64) rfl
        rw [hr] at r1
        refine ⟨0, _, _, _, rfl, r1, u_eq, fun _ => uJ_j, ?_⟩
        exact (h.i (τ := uJ σ 1361 0 (Int32.ofNat q).toInt64) rfl (by omega) (h.2.2.2.2.up rfl (by omega))).th
end ORS
