/-! the shape of an element, of a document, of a piece -/
section SHR
variable {b : List Int32} {R l0 s : Nat}
theorem shp_hd {lv p q : Nat} {ns : List Nd} (hc : chOk ns) (hh : hdL lv (lastN ns)) : shp b (lv + 1) q ns ∧ shp b lv p ns := by
  refine ⟨⟨hc, fun _ => ⟨?_, fun g => ?_, fun g => ?_⟩⟩, ⟨hc, fun _ => ⟨?_, fun g => ?_, fun g => ?_⟩⟩⟩
  · rcases hh with g | g <;> omega
  · rcases hh with k | k <;> omega
  · rcases hh with k | k <;> (rw [k.1] at g; exact absurd g (by decide))
  · rcases hh with g | g <;> omega
  · rcases hh with k | k <;> omega
  · rcases hh with k | k <;> (rw [k.1] at g; exact absurd g (by decide))
/-- what a part adds, all of it at its level or below -/
def grw (s l : Nat) (ns ms : List Nd) : Prop := ns.length ≤ ms.length ∧ allK s l ms ∧ ∀ i, i < ns.length → nd ms i = nd ns i
theorem sHd_at {lv p : Nat} {ns : List Nd} {x : Nat × List Nd × Bool} (hO : okB b) (h : sHd b R lv p ns = .inr x) (hs : shw lv ns) (hlv : 1 ≤ lv) : allK (ns.length + 1) (lv + 1) x.2.1 := by
  have h8 := sHd_8 h
  unfold sHd at h
  split at h
  · split at h
    · cases h
    · split at h
      · unfold sHe at h
        split at h
        · cases h
        · rename_i y hy
          have hx : x.2.1 = y.2 := by
            unfold hdE at h
            split at h
            · injection h with h
              rw [← h]
            · split at h
              · split at h
                · injection h with h
                  rw [← h]
                · cases h
              · cases h
          have k := sAs_shp (s := ns.length + 1) (l := lv + 1) hO (by omega) (by omega) 200 _ _ y hy (hs.1.snoc (fun h0 => by
            obtain ⟨h1, h2⟩ := hs.2 h0
            exact ⟨h1, h2, fun g => absurd (show 1 = 2 from g) (by decide), fun g => absurd (show 1 = 3 from g.2.1) (by decide)⟩)) (by rw [List.length_append, List.length_cons]; omega) (by rw [last_snoc]; exact Or.inl ⟨rfl, rfl⟩) (fun i h1 h2 => absurd h2 (by rw [List.length_append, List.length_cons, List.length_nil]; omega))
          rw [hx]
          exact k.2.2.2.1
      · cases h
  · cases h
theorem run_shp (hO : okB b) (hl0 : 1 ≤ l0) : ∀ (n : Nat) (st : List (List Int32)) (p : Nat) (ns : List Nd) (x : Nat × List Nd), run b R l0 n st p ns = .inr x → shp b (st.length + l0) p ns → st.length + l0 ≤ 9 → allK s (l0 + 1) ns ∨ st = [] → shp b l0 x.1 x.2 ∧ ns.length ≤ x.2.length ∧ (∀ i, i < ns.length → nd x.2 i = nd ns i) ∧ (allK s (l0 + 1) ns → allK s (l0 + 1) x.2) := by
  intro n
  induction n with
  | zero =>
    intro st p ns x h
    unfold run at h
    cases h
  | succ n ih =>
    intro st p ns x h hsh hlv hk
    cases st with
    | nil =>
      rw [run_nil] at h
      injection h with h
      rw [← h]
      rw [List.length_nil, Nat.zero_add] at hsh
      exact ⟨hsh, Nat.le_refl _, fun _ _ => rfl, id⟩
    | cons nm st =>
      have hk2 : allK s (l0 + 1) ns := hk.elim id (fun g => absurd g (List.cons_ne_nil _ _))
      rw [List.length_cons] at hlv hsh
      by_cases hcl : b.getD p 0 = 60 ∧ b.getD (p + 1) 0 = 47
      · rw [run_cl hcl] at h
        split at h
        · cases h
        · rename_i q hq
          refine ih st q ns x h ⟨hsh.1, fun h0 => ?_⟩ (by omega) (Or.inl hk2)
          obtain ⟨h1, h2, h3⟩ := hsh.2 h0
          exact ⟨by omega, fun g => by have := h2 g; omega, fun g1 g2 => by have := h2 (by omega); omega⟩
      · rw [run_pt hcl] at h
        unfold sPa at h
        split at h
        · rename_i h60
          split at h
          · cases h
          · split at h
            · split at h
              · cases h
              · rename_i y hy
                have kc := sCm_ch hO hy
                rw [List.length_cons] at h
                have k := ih (nm :: st) y.1 _ x h (by rw [List.length_cons]; exact hsh.snoc rfl (show 4 ≠ 2 by decide) (fun g => absurd (show 4 = 3 from g) (by decide)) (fun g => absurd (show 4 = 3 from g) (by decide))) (by rw [List.length_cons]; exact hlv) (Or.inl (hk2.snoc ⟨ndK_cm (by omega) hlv kc, by dsimp only; omega⟩))
                refine ⟨k.1, by have := k.2.1; rw [List.length_append] at this; omega, fun i hi => ?_, fun _ => k.2.2.2 (hk2.snoc ⟨ndK_cm (by omega) hlv kc, by dsimp only; omega⟩)⟩
                rw [k.2.2.1 i (by rw [List.length_append]; omega), nd_snoc, if_pos hi]
            · unfold sEl at h
              rw [List.length_cons] at h
              split at h
              · cases h
              · rename_i y hy
                have k := sHd_shp (s := s) (l := l0 + 1) hO hy hsh.w hk2 (by omega) (by omega)
                have kk := shp_hd (b := b) (p := y.1) (q := y.1) k.1 k.2.2.1
                split at h
                · have j := ih (hnm b p :: nm :: st) y.1 y.2.1 x h (by rw [List.length_cons, List.length_cons, show st.length + 1 + 1 + l0 = st.length + 1 + l0 + 1 by omega]; exact kk.1) (by rw [List.length_cons, List.length_cons]; have := k.2.2.2.2.2.2.2; omega) (Or.inl k.2.2.2.1)
                  exact ⟨j.1, by have := j.2.1; have := k.2.1; omega, fun i hi => by rw [j.2.2.1 i (by have := k.2.1; omega)]; exact k.2.2.2.2.1 i hi, fun _ => j.2.2.2 k.2.2.2.1⟩
                · have j := ih (nm :: st) y.1 y.2.1 x h (by rw [List.length_cons]; exact kk.2) (by rw [List.length_cons]; exact hlv) (Or.inl k.2.2.2.1)
                  exact ⟨j.1, by have := j.2.1; have := k.2.1; omega, fun i hi => by rw [j.2.2.1 i (by have := k.2.1; omega)]; exact k.2.2.2.2.1 i hi, fun _ => j.2.2.2 k.2.2.2.1⟩
        · rename_i h60
          split at h
          · cases h
          · rename_i y hy
            have kc := sTx_ch hO hy
            rw [List.length_cons] at h
            have kq : allK s (l0 + 1) (ns ++ [(3, st.length + 1 + l0, [], y.2)]) := hk2.snoc ⟨ndK_tx (by omega) hlv kc.1 (kc.2.1 h60), by dsimp only; omega⟩
            have k := ih (nm :: st) y.1 _ x h (by rw [List.length_cons]; exact hsh.snoc rfl (show 3 ≠ 2 by decide) (fun _ => ⟨h60, okB_nz hO kc.2.2.1⟩) (fun _ => kc.2.2.2)) (by rw [List.length_cons]; exact hlv) (Or.inl kq)
            refine ⟨k.1, by have := k.2.1; rw [List.length_append] at this; omega, fun i hi => ?_, fun _ => k.2.2.2 kq⟩
            rw [k.2.2.1 i (by rw [List.length_append]; omega), nd_snoc, if_pos hi]
theorem shw.snoc {lv : Nat} {ns : List Nd} {y : Nd} (h : shw lv ns) (hy : y.2.1 = lv) (ha : y.1 ≠ 2) (ht : y.1 ≠ 3) : shw lv (ns ++ [y]) := by
  refine ⟨h.1.snoc (fun h0 => ?_), fun _ => ?_⟩
  · obtain ⟨h1, h2⟩ := h.2 h0
    exact ⟨by omega, fun g => by have := h2 g; omega, fun g => absurd g ha, fun g => ht g.2.1⟩
  · rw [last_snoc]
    exact ⟨by omega, fun _ => by omega⟩
theorem sOu_shp (hO : okB b) : ∀ (n p : Nat) (ns : List Nd) (x : Nat × List Nd), sOu b R n p ns = .inr x → shw 1 ns → allK s 1 ns → shw 1 x.2 ∧ allK s 1 x.2 ∧ ns.length ≤ x.2.length ∧ ∀ i, i < ns.length → nd x.2 i = nd ns i := by
  intro n
  induction n with
  | zero =>
    intro p ns x h h1 h2
    unfold sOu at h
    injection h with h
    rw [← h]
    exact ⟨h1, h2, Nat.le_refl _, fun _ _ => rfl⟩
  | succ n ih =>
    intro p ns x h h1 h2
    unfold sOu at h
    split at h
    · cases h
    · split at h
      · split at h
        · cases h
        · rename_i y hy
          have kc := sCm_ch hO hy
          have k := ih y.1 _ x h (h1.snoc rfl (show 4 ≠ 2 by decide) (show 4 ≠ 3 by decide)) (h2.snoc ⟨ndK_cm (by decide) (by decide) kc, Nat.le_refl 1⟩)
          refine ⟨k.1, k.2.1, by have := k.2.2.1; rw [List.length_append] at this; omega, fun i hi => ?_⟩
          rw [k.2.2.2 i (by rw [List.length_append]; omega), nd_snoc, if_pos hi]
      · injection h with h
        rw [← h]
        exact ⟨h1, h2, Nat.le_refl _, fun _ _ => rfl⟩
/-- an element with all that is in it -/
theorem sEl_shp {n p : Nat} {ns : List Nd} {x : Nat × List Nd} (hO : okB b) (hl0 : 1 ≤ l0) (hs0 : s ≤ ns.length) (h : sEl b R l0 (run b R l0 n) [] p ns = .inr x) (hs : shw l0 ns) (hk : allK s l0 ns) : shp b l0 x.1 x.2 ∧ ns.length < x.2.length ∧ (∀ i, i < ns.length → nd x.2 i = nd ns i) ∧ allK s l0 x.2 ∧ allK (ns.length + 1) (l0 + 1) x.2 ∧ (nd x.2 ns.length).2.1 = l0 ∧ (nd x.2 ns.length).1 = 1 := by
  unfold sEl at h
  rw [List.length_nil, Nat.zero_add] at h
  split at h
  · cases h
  · rename_i y hy
    have k := sHd_shp (s := s) (l := l0) hO hy hs hk hl0 (Nat.le_refl _)
    have kk := shp_hd (b := b) (p := y.1) (q := y.1) k.1 k.2.2.1
    have hat : allK (ns.length + 1) (l0 + 1) y.2.1 := sHd_at hO hy hs hl0
    have fin : shp b l0 x.1 x.2 ∧ y.2.1.length ≤ x.2.length ∧ (∀ i, i < y.2.1.length → nd x.2 i = nd y.2.1 i) ∧ (allK (ns.length + 1) (l0 + 1) y.2.1 → allK (ns.length + 1) (l0 + 1) x.2) := by
      split at h
      · exact run_shp hO hl0 n [hnm b p] y.1 y.2.1 x h (by rw [List.length_cons, List.length_nil, show 0 + 1 + l0 = l0 + 1 by omega]; exact kk.1) (by rw [List.length_cons, List.length_nil]; have := k.2.2.2.2.2.2.2; omega) (Or.inl hat)
      · exact run_shp hO hl0 n [] y.1 y.2.1 x h (by rw [List.length_nil, Nat.zero_add]; exact kk.2) (by rw [List.length_nil]; have := k.2.2.2.2.2.2.2; omega) (Or.inl hat)
    have hlt := k.2.1
    have hle := fin.2.1
    have hnew := fin.2.2.2 hat
    refine ⟨fin.1, by omega, fun i hi => by rw [fin.2.2.1 i (by omega)]; exact k.2.2.2.2.1 i hi, fun i h1 h2 => ?_, hnew, by rw [fin.2.2.1 _ hlt]; exact k.2.2.2.2.2.1, by rw [fin.2.2.1 _ hlt]; exact k.2.2.2.2.2.2.1⟩
    by_cases c : i < y.2.1.length
    · rw [fin.2.2.1 i c]
      exact k.2.2.2.1 i h1 c
    · have w := hnew i (by omega) h2
      exact ⟨w.1, by omega⟩
end SHR
