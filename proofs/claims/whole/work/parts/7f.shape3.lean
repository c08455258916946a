/-! the shape of a document, of a piece -/
section SHD
variable {b : List Int32}
def wf (ns : List Nd) : Prop := 0 < ns.length ∧ nd ns 0 = doc0 ∧ chOk ns ∧ allK 1 1 ns
theorem sDoc_wf {ns : List Nd} (hO : okB b) (h : sDoc b = .inr ns) : wf ns := by
  have s0 : shw 1 [doc0] := ⟨fun i hi => absurd hi (by rw [List.length_cons, List.length_nil]; omega), fun _ => ⟨by decide, fun g => absurd g (by decide)⟩⟩
  have k0 : allK 1 1 [doc0] := fun i h1 h2 => absurd h2 (by rw [List.length_cons, List.length_nil]; omega)
  unfold sDoc at h
  split at h
  · cases h
  · rename_i x hx
    have kx := sOu_shp (s := 1) hO 200 0 _ x hx s0 k0
    split at h
    · split at h
      · cases h
      · rename_i y hy
        have lx := kx.2.2.1
        rw [List.length_cons, List.length_nil] at lx
        split at h
        · cases h
        · rename_i z hz
          split at h
          · cases h
          · injection h with h
            have ky := sEl_shp (s := 1) hO (Nat.le_refl _) (by omega) hy kx.1 kx.2.1
            have kz := sOu_shp (s := 1) hO 200 _ _ z hz ky.1.w ky.2.2.2.1
            rw [← h]
            have l1 := ky.2.1
            have l2 := kz.2.2.1
            refine ⟨by omega, ?_, kz.1.1, kz.2.1⟩
            rw [kz.2.2.2 0 (by omega), ky.2.2.1 0 (by omega), kx.2.2.2 0 (by decide)]
            rfl
    · cases h
/-- a piece: its first node stands at its level, all others are below it -/
theorem sPc_wf {R lv : Nat} {m : List Nd} (hO : okB b) (hlv : 1 ≤ lv) (hlv9 : lv ≤ 9) (h : sPc b R lv = .inr m) : 0 < m.length ∧ chOk m ∧ allK 0 lv m ∧ allK 1 (lv + 1) m ∧ (nd m 0).2.1 = lv ∧ (nd m 0).1 ≠ 2 ∧ ((nd m 0).1 ≠ 1 → m.length = 1) := by
  have one : ∀ (k : Nat) (es : List Int32), k = 3 ∨ k = 4 → okB es → (k = 3 → es ≠ []) → 0 < [((k, lv, [], es) : Nd)].length ∧ chOk [((k, lv, [], es) : Nd)] ∧ allK 0 lv [((k, lv, [], es) : Nd)] ∧ allK 1 (lv + 1) [((k, lv, [], es) : Nd)] ∧ (nd [((k, lv, [], es) : Nd)] 0).2.1 = lv ∧ (nd [((k, lv, [], es) : Nd)] 0).1 ≠ 2 ∧ ((nd [((k, lv, [], es) : Nd)] 0).1 ≠ 1 → [((k, lv, [], es) : Nd)].length = 1) := fun k es hk he hn => by
    refine ⟨Nat.zero_lt_one, fun i hi => absurd hi (by rw [List.length_cons, List.length_nil]; omega), fun i _ h2 => ?_, fun i h1 h2 => absurd h2 (by rw [List.length_cons, List.length_nil]; omega), rfl, ?_, fun _ => rfl⟩
    · rw [List.length_cons, List.length_nil] at h2
      rw [show i = 0 by omega]
      refine ⟨⟨?_, ?_, hlv, hlv9, okB_nil, he, fun g => ⟨rfl, hn g⟩, fun _ => rfl, fun g => ?_⟩, Nat.le_refl _⟩
      · show 1 ≤ k
        omega
      · show k ≤ 4
        omega
      · have g2 : k = 1 := g
        omega
    · show k ≠ 2
      omega
  unfold sPc at h
  split at h
  · cases h
  · rename_i y hy
    split at h
    · cases h
    · injection h with h
      unfold sPa at hy
      split at hy
      · split at hy
        · cases hy
        · split at hy
          · split at hy
            · cases hy
            · rename_i z hz
              have e : run b R lv 200 [] z.1 ([] ++ [(4, ([] : List (List Int32)).length + lv, [], z.2)]) = .inr (z.1, [] ++ [(4, ([] : List (List Int32)).length + lv, [], z.2)]) := run_nil
              rw [e] at hy
              injection hy with hy
              rw [← h, ← hy]
              rw [List.length_nil, Nat.zero_add, List.nil_append]
              exact one 4 z.2 (Or.inr rfl) (sCm_ch hO hz) (fun g => absurd g (by decide))
          · have s0 : shw lv [] := ⟨fun i hi => absurd hi (Nat.not_lt_zero _), fun g => absurd g (by decide)⟩
            have k := sEl_shp (s := 0) hO hlv (Nat.le_refl _) hy s0 (fun i _ h2 => absurd h2 (Nat.not_lt_zero _))
            rw [List.length_nil] at k
            rw [← h]
            exact ⟨k.2.1, k.1.1, k.2.2.2.1, k.2.2.2.2.1, k.2.2.2.2.2.1, by rw [k.2.2.2.2.2.2]; decide, fun g => absurd k.2.2.2.2.2.2 g⟩
      · rename_i h60
        split at hy
        · cases hy
        · rename_i z hz
          have kc := sTx_ch hO hz
          have e : run b R lv 200 [] z.1 ([] ++ [(3, ([] : List (List Int32)).length + lv, [], z.2)]) = .inr (z.1, [] ++ [(3, ([] : List (List Int32)).length + lv, [], z.2)]) := run_nil
          rw [e] at hy
          injection hy with hy
          rw [← h, ← hy]
          rw [List.length_nil, Nat.zero_add, List.nil_append]
          exact one 3 z.2 (Or.inl rfl) kc.1 (fun _ => kc.2.1 h60)
end SHD
