/-! WHAT IS READ HAS THE SHAPE OF A TREE -/
abbrev lastN (ns : List Nd) : Nd := nd ns (ns.length - 1)
def ndK (y : Nd) : Prop := 1 ≤ y.1 ∧ y.1 ≤ 4 ∧ 1 ≤ y.2.1 ∧ y.2.1 ≤ 9 ∧ okB y.2.2.1 ∧ okB y.2.2.2 ∧ (y.1 = 3 → y.2.2.1 = [] ∧ y.2.2.2 ≠ []) ∧ (y.1 = 4 → y.2.2.1 = []) ∧ (y.1 = 1 → y.2.2.2 = [] ∧ y.2.1 ≤ 8)
theorem ndK_at {lv : Nat} {nm ow : List Int32} (h1 : 1 ≤ lv) (h9 : lv ≤ 9) (ho : okB nm) (hw : okB ow) : ndK (2, lv, nm, ow) := ⟨(by decide : 1 ≤ 2), (by decide : 2 ≤ 4), h1, h9, ho, hw, fun g => absurd (show 2 = 3 from g) (by decide), fun g => absurd (show 2 = 4 from g) (by decide), fun g => absurd (show 2 = 1 from g) (by decide)⟩
theorem ndK_el {lv : Nat} {nm : List Int32} (h1 : 1 ≤ lv) (h8 : lv ≤ 8) (ho : okB nm) : ndK (1, lv, nm, []) := ⟨(by decide : 1 ≤ 1), (by decide : 1 ≤ 4), h1, Nat.le_trans h8 (by decide), ho, fun p hp => absurd hp (Nat.not_lt_zero _), fun g => absurd (show 1 = 3 from g) (by decide), fun g => absurd (show 1 = 4 from g) (by decide), fun _ => ⟨rfl, h8⟩⟩
theorem ndK_tx {lv : Nat} {ow : List Int32} (h1 : 1 ≤ lv) (h9 : lv ≤ 9) (hw : okB ow) (hn : ow ≠ []) : ndK (3, lv, [], ow) := ⟨(by decide : 1 ≤ 3), (by decide : 3 ≤ 4), h1, h9, fun p hp => absurd hp (Nat.not_lt_zero _), hw, fun _ => ⟨rfl, hn⟩, fun _ => rfl, fun g => absurd (show 3 = 1 from g) (by decide)⟩
theorem ndK_cm {lv : Nat} {ow : List Int32} (h1 : 1 ≤ lv) (h9 : lv ≤ 9) (hw : okB ow) : ndK (4, lv, [], ow) := ⟨(by decide : 1 ≤ 4), (by decide : 4 ≤ 4), h1, h9, fun p hp => absurd hp (Nat.not_lt_zero _), hw, fun g => absurd (show 4 = 3 from g) (by decide), fun _ => rfl, fun g => absurd (show 4 = 1 from g) (by decide)⟩
def shp (b : List Int32) (lv p : Nat) (ns : List Nd) : Prop := chOk ns ∧ (0 < ns.length → lv ≤ (lastN ns).2.1 + 1 ∧ (1 < (lastN ns).1 → lv ≤ (lastN ns).2.1) ∧ ((lastN ns).1 = 3 → (lastN ns).2.1 = lv → b.getD p 0 = 60 ∨ b.getD p 0 = 0))
def shw (lv : Nat) (ns : List Nd) : Prop := chOk ns ∧ (0 < ns.length → lv ≤ (lastN ns).2.1 + 1 ∧ (1 < (lastN ns).1 → lv ≤ (lastN ns).2.1))
theorem shp.w {b : List Int32} {lv p : Nat} {ns : List Nd} (h : shp b lv p ns) : shw lv ns := ⟨h.1, fun h0 => ⟨(h.2 h0).1, (h.2 h0).2.1⟩⟩
def allK (s l : Nat) (ns : List Nd) : Prop := ∀ i, s ≤ i → i < ns.length → ndK (nd ns i) ∧ l ≤ (nd ns i).2.1
section SHP
variable {b : List Int32} {lv p s l : Nat} {ns : List Nd} {y : Nd}
theorem last_snoc : lastN (ns ++ [y]) = y := by
  unfold lastN
  rw [nd_snoc, List.length_append, List.length_cons, List.length_nil, if_neg (by omega), if_pos (by omega)]
theorem chOk.snoc (h : chOk ns) (g : 0 < ns.length → adjOk (lastN ns) y) : chOk (ns ++ [y]) := by
  intro i hi
  rw [List.length_append, List.length_cons, List.length_nil] at hi
  rw [nd_snoc, nd_snoc, if_pos (show i < ns.length by omega)]
  by_cases c : i + 1 < ns.length
  · rw [if_pos c]
    exact h i c
  · rw [if_neg c, if_pos (by omega), show i = ns.length - 1 by omega]
    exact g (by omega)
theorem allK.snoc (h : allK s l ns) (g : ndK y ∧ l ≤ y.2.1) : allK s l (ns ++ [y]) := by
  intro i h1 hi
  rw [List.length_append, List.length_cons, List.length_nil] at hi
  rw [nd_snoc]
  by_cases c : i < ns.length
  · rw [if_pos c]
    exact h i h1 c
  · rw [if_neg c, if_pos (by omega)]
    exact g
/-- a node at the level that is due, no attribute, no text behind a text -/
theorem shp.snoc {q : Nat} (h : shp b lv p ns) (hy : y.2.1 = lv) (ha : y.1 ≠ 2) (ht : y.1 = 3 → ¬ b.getD p 0 = 60 ∧ ¬ b.getD p 0 = 0) (hq : y.1 = 3 → b.getD q 0 = 60 ∨ b.getD q 0 = 0) : shp b lv q (ns ++ [y]) := by
  refine ⟨h.1.snoc (fun h0 => ?_), fun _ => ?_⟩
  · obtain ⟨h1, h2, h3⟩ := h.2 h0
    refine ⟨by omega, fun g => by have := h2 g; omega, fun g => absurd g ha, fun g => ?_⟩
    have k := ht g.2.1
    rcases h3 g.1 (by rw [g.2.2, hy]) with k2 | k2
    · exact k.1 k2
    · exact k.2 k2
  · rw [last_snoc]
    exact ⟨by omega, fun _ => by omega, fun g _ => hq g⟩
theorem okB_nil : okB [] := fun p hp => absurd hp (Nat.not_lt_zero _)
theorem okB_stre {n : Nat} (h : okB b) : okB (stre b p n) := by
  intro j hj
  unfold stre at hj ⊢
  rw [List.length_take, List.length_drop] at hj
  rw [getD_take, if_pos (by omega), getD_drop]
  exact h (p + j) (by omega)
theorem rdCh_ch {c : Int32} {q : Nat} (hO : okB b) (h : rdCh b p = some (c, q)) : ∃ k, 0 < k ∧ k < 128 ∧ c = Int32.ofNat k := by
  unfold rdCh at h
  split at h
  · cases h
  · rename_i h0
    split at h
    · split at h
      · cases h
      · rename_i hz
        injection h with h
        injection h with h1 h2
        rw [← h1]
        unfold ent at hz ⊢
        split
        · exact ⟨60, by decide, by decide, rfl⟩
        · split
          · exact ⟨62, by decide, by decide, rfl⟩
          · split
            · exact ⟨38, by decide, by decide, rfl⟩
            · split
              · exact ⟨34, by decide, by decide, rfl⟩
              · split
                · exact ⟨39, by decide, by decide, rfl⟩
                · rename_i a1 a2 a3 a4 a5
                  rw [if_neg a1, if_neg a2, if_neg a3, if_neg a4, if_neg a5] at hz
                  exact absurd rfl hz
    · injection h with h
      injection h with h1 h2
      rw [← h1]
      exact hO p (nz_lt (fun hh => h0 (Or.inr hh)))
theorem rdT_ch {stop : Int32 → Bool} (hO : okB b) : ∀ (n p q : Nat) (es : List Int32), rdT b stop n p = some (q, es) → okB es ∧ (stop (b.getD p 0) = false → es ≠ []) := by
  intro n
  induction n with
  | zero =>
    intro p q es h
    unfold rdT at h
    cases h
  | succ n ih =>
    intro p q es h
    unfold rdT at h
    by_cases hs : stop (b.getD p 0) = true
    · rw [if_pos hs] at h
      injection h with h
      injection h with h1 h2
      rw [← h2]
      exact ⟨okB_nil, fun hh => by rw [hs] at hh; cases hh⟩
    · rw [if_neg hs] at h
      cases hr : rdCh b p with
      | none =>
        rw [hr] at h
        cases h
      | some x =>
        rw [hr] at h
        dsimp only at h
        cases hq : rdT b stop n x.2 with
        | none =>
          rw [hq] at h
          cases h
        | some z =>
          rw [hq] at h
          dsimp only at h
          injection h with h
          injection h with h1 h2
          rw [← h2]
          refine ⟨fun j hj => ?_, fun _ => List.cons_ne_nil _ _⟩
          cases j with
          | zero => exact rdCh_ch (c := x.1) (q := x.2) hO hr
          | succ j => exact (ih x.2 z.1 z.2 hq).1 j (by rw [List.length_cons] at hj; omega)
theorem sTx_ch {R k : Nat} {x : Nat × List Int32} (hO : okB b) (h : sTx b R k p = .inr x) : okB x.2 ∧ (¬ b.getD p 0 = 60 → x.2 ≠ []) ∧ p < b.length ∧ (b.getD x.1 0 = 60 ∨ b.getD x.1 0 = 0) := by
  unfold sTx at h
  split at h
  · cases h
  · rename_i hp
    split at h
    · cases h
    · split at h
      · cases h
      · rename_i y hy
        injection h with h
        have k1 := rdT_ch hO 200 p y.1 y.2 hy
        have k2 := rdT_ok hO 200 p y.1 y.2 hy
        rw [← h]
        have hpl := Classical.not_not.mp hp
        refine ⟨k1.1, fun h60 => k1.2 ?_, hpl, ?_⟩
        · unfold stT
          rw [decide_eq_false h60, decide_eq_false (okB_nz hO hpl)]
          rfl
        · have k3 := k2.2.2.1
          unfold stT at k3
          rw [Bool.or_eq_true, decide_eq_true_eq, decide_eq_true_eq] at k3
          exact k3
theorem sCm_ch {R k : Nat} {x : Nat × List Int32} (hO : okB b) (h : sCm b R k p = .inr x) : okB x.2 := by
  unfold sCm at h
  split at h
  · split at h
    · cases h
    · split at h
      · split at h
        · injection h with h
          rw [← h]
          exact okB_stre hO
        · cases h
      · cases h
  · cases h
theorem sAt_ch {R k : Nat} {prev : List Nd} {x : Nat × List Int32 × List Int32} (hO : okB b) (h : sAt b R k p prev = .inr x) : okB x.2.1 ∧ okB x.2.2 := by
  unfold sAt at h
  split at h
  · cases h
  · split at h
    · split at h
      · split at h
        · cases h
        · rename_i y hy
          split at h
          · injection h with h
            rw [← h]
            exact ⟨okB_stre hO, (rdT_ch hO 200 _ y.1 y.2 hy).1⟩
          · cases h
      · cases h
    · cases h
end SHP
/-- the last node of a head: the element or an attribute of it -/
def hdL (lv : Nat) (y : Nd) : Prop := (y.1 = 1 ∧ y.2.1 = lv) ∨ (y.1 = 2 ∧ y.2.1 = lv + 1)
section SHQ
variable {b : List Int32} {R lv fa s l : Nat}
theorem sAs_shp (hO : okB b) (hlv : lv + 1 ≤ 9) (hl : l ≤ lv + 1) : ∀ (n p : Nat) (ns : List Nd) (x : Nat × List Nd), sAs b R (lv + 1) fa n p ns = .inr x → chOk ns → 0 < ns.length → hdL lv (lastN ns) → allK s l ns → chOk x.2 ∧ ns.length ≤ x.2.length ∧ hdL lv (lastN x.2) ∧ allK s l x.2 ∧ (∀ i, i < ns.length → nd x.2 i = nd ns i) := by
  intro n
  induction n with
  | zero =>
    intro p ns x h hc h0 hh hk
    unfold sAs at h
    injection h with h
    rw [← h]
    exact ⟨hc, Nat.le_refl _, hh, hk, fun _ _ => rfl⟩
  | succ n ih =>
    intro p ns x h hc h0 hh hk
    unfold sAs at h
    split at h
    · rename_i hs
      split at h
      · cases h
      · rename_i y hy
        have kc := sAt_ch hO hy
        have k := ih y.1 (ns ++ [(2, lv + 1, y.2.1, y.2.2)]) x h (hc.snoc (fun _ => ⟨by rcases hh with g | g <;> (dsimp only; omega), fun _ => by rcases hh with g | g <;> (dsimp only; omega), fun _ => by
          rcases hh with g | g
          · exact Or.inl ⟨g.1, by dsimp only; omega⟩
          · exact Or.inr ⟨g.1, by dsimp only; omega⟩, fun g => absurd (show 2 = 3 from g.2.1) (by decide)⟩)) (by rw [List.length_append]; omega) (by rw [last_snoc]; exact Or.inr ⟨rfl, rfl⟩) (hk.snoc ⟨ndK_at (by omega) hlv kc.1 kc.2, hl⟩)
        refine ⟨k.1, by have := k.2.1; rw [List.length_append] at this; omega, k.2.2.1, k.2.2.2.1, fun i hi => ?_⟩
        rw [k.2.2.2.2 i (by rw [List.length_append]; omega), nd_snoc, if_pos hi]
    · injection h with h
      rw [← h]
      exact ⟨hc, Nat.le_refl _, hh, hk, fun _ _ => rfl⟩
theorem sHd_shp {p : Nat} {ns : List Nd} {x : Nat × List Nd × Bool} (hO : okB b) (h : sHd b R lv p ns = .inr x) (hs : shw lv ns) (hk : allK s l ns) (hlv : 1 ≤ lv) (hl : l ≤ lv) : chOk x.2.1 ∧ ns.length < x.2.1.length ∧ hdL lv (lastN x.2.1) ∧ allK s l x.2.1 ∧ (∀ i, i < ns.length → nd x.2.1 i = nd ns i) ∧ (nd x.2.1 ns.length).2.1 = lv ∧ (nd x.2.1 ns.length).1 = 1 ∧ lv ≤ 8 := by
  have h8 := sHd_8 h
  unfold sHd at h
  split at h
  · split at h
    · cases h
    · split at h
      · unfold sHe at h
        split at h
        · cases h
        · rename_i y hy
          have hx : x.2.1 = y.2 := by
            unfold hdE at h
            split at h
            · injection h with h
              rw [← h]
            · split at h
              · split at h
                · injection h with h
                  rw [← h]
                · cases h
              · cases h
          have k := sAs_shp (s := s) (l := l) hO (by omega) (by omega) 200 _ _ y hy (hs.1.snoc (fun h0 => by
            obtain ⟨h1, h2⟩ := hs.2 h0
            exact ⟨h1, h2, fun g => absurd (show 1 = 2 from g) (by decide), fun g => absurd (show 1 = 3 from g.2.1) (by decide)⟩)) (by rw [List.length_append, List.length_cons]; omega) (by rw [last_snoc]; exact Or.inl ⟨rfl, rfl⟩) (hk.snoc ⟨ndK_el hlv h8 (okB_stre hO), hl⟩)
          have k2 := k.2.1
          rw [List.length_append, List.length_cons, List.length_nil] at k2
          have k5 := k.2.2.2.2 ns.length (by rw [List.length_append, List.length_cons, List.length_nil]; omega)
          rw [nd_snoc, if_neg (by omega), if_pos (by rfl)] at k5
          rw [hx]
          refine ⟨k.1, by omega, k.2.2.1, k.2.2.2.1, fun i hi => ?_, by rw [k5], by rw [k5], h8⟩
          rw [k.2.2.2.2 i (by rw [List.length_append]; omega), nd_snoc, if_pos hi]
      · cases h
  · cases h
end SHQ
