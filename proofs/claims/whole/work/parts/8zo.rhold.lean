/-! THE REFERENCE RUNS A PREDICATE -/
def agG (σ τ : St) : Prop := (τ.2.2 = σ.2.2 ∧ ∀ A, ¬ A = 1360 → τ.2.1 A = σ.2.1 A) ∧ (∀ A, ¬ A = 1315 → ¬ A = 1352 → ¬ A = 1359 → τ.1 A = σ.1 A) ∧ (∀ j, ¬ (j = 0 ∨ j = 34 ∨ j = 35 ∨ j = 59) → τ.1 1315 j = σ.1 1315 j)
def agH (σ τ : St) : Prop := (τ.2.2 = σ.2.2 ∧ ∀ A, ¬ A = 1360 → τ.2.1 A = σ.2.1 A) ∧ (∀ A, ¬ A = 1315 → ¬ A = 1359 → τ.1 A = σ.1 A) ∧ (∀ j, ¬ j = 59 → τ.1 1315 j = σ.1 1315 j)
theorem agG.rf {σ : St} : agG σ σ := ⟨⟨rfl, fun _ _ => rfl⟩, fun _ _ _ _ => rfl, fun _ _ => rfl⟩
theorem agG.tr {σ τ υ : St} (h : agG σ τ) (g : agG τ υ) : agG σ υ := ⟨⟨by rw [g.1.1, h.1.1], fun A hA => by rw [g.1.2 A hA, h.1.2 A hA]⟩, fun A h1 h2 h3 => by rw [g.2.1 A h1 h2 h3, h.2.1 A h1 h2 h3], fun j hj => by rw [g.2.2 j hj, h.2.2 j hj]⟩
theorem agH.g {σ τ : St} (h : agH σ τ) : agG σ τ := ⟨h.1, fun A h1 _ h3 => h.2.1 A h1 h3, fun j hj => h.2.2 j (by omega)⟩
theorem agH.rf {σ : St} : agH σ σ := ⟨⟨rfl, fun _ _ => rfl⟩, fun _ _ _ => rfl, fun _ _ => rfl⟩
theorem agH.tr {σ τ υ : St} (h : agH σ τ) (g : agH τ υ) : agH σ υ := ⟨⟨by rw [g.1.1, h.1.1], fun A hA => by rw [g.1.2 A hA, h.1.2 A hA]⟩, fun A h1 h2 => by rw [g.2.1 A h1 h2, h.2.1 A h1 h2], fun j hj => by rw [g.2.2 j hj, h.2.2 j hj]⟩
theorem agG.e {b : List Int32} {ns : List Nd} {σ τ : St} {T : Tb} {np nst npr nop : Nat} (h : agG σ τ) (g : eR b ns σ T np nst npr nop) : eR b ns τ T np nst npr nop := by
  obtain ⟨g1, g2, ⟨t1, t2, t3, t4⟩, g4, g5, g6⟩ := g
  have f : ∀ A, ¬ A = 1315 → ¬ A = 1352 → ¬ A = 1359 → τ.1 A = σ.1 A := h.2.1
  refine ⟨g1.fr (h.2.2 1 (by decide)) (f 1316 (by decide) (by decide) (by decide)), g2.fr (fun a h1 h2 => f a (by omega) (by omega) (by omega)) (h.2.2 3 (by decide)), ⟨fun k hk => by rw [f 1341 (by decide) (by decide) (by decide)]; exact t1 k hk, fun s hs => ⟨by rw [f 1342 (by decide) (by decide) (by decide)]; exact (t2 s hs).1, ?_⟩, fun r hr => by rw [f 1347 (by decide) (by decide) (by decide)]; exact t3 r hr, fun o ho => by rw [f 1348 (by decide) (by decide) (by decide), f 1349 (by decide) (by decide) (by decide), f 1350 (by decide) (by decide) (by decide), f 1351 (by decide) (by decide) (by decide)]; exact t4 o ho⟩, by rw [h.2.2 38 (by decide)]; exact g4, by rw [h.2.2 44 (by decide)]; exact g5, by rw [h.2.2 46 (by decide)]; exact g6⟩
  unfold mSt
  rw [f 1343 (by decide) (by decide) (by decide), f 1344 (by decide) (by decide) (by decide), f 1345 (by decide) (by decide) (by decide), f 1346 (by decide) (by decide) (by decide)]
  exact (t2 s hs).2
theorem agH.e {b : List Int32} {ns : List Nd} {σ τ : St} {T : Tb} {np nst npr nop : Nat} (h : agH σ τ) (g : eR b ns σ T np nst npr nop) : eR b ns τ T np nst npr nop := h.g.e g
def stV (ns : List Nd) (b : List Int32) (T : Tb) (nop : Nat) (σ : St) : List Vl → Prop
  | [] => True
  | v :: s => vM ns b T nop (σ.1 1359 s.length) (σ.2.1 1360 s.length) v ∧ stV ns b T nop σ s
def stS (ns : List Nd) (b : List Int32) (T : Tb) (nop : Nat) (σ : St) (s : List Vl) : Prop := σ.1 1315 59 = Int32.ofNat s.length ∧ stV ns b T nop σ s
def bnd (ns : List Nd) (v : Vl) (w : Nat) : Prop := vOK ns v ∧ ∀ u, nmV ns v = some u → -(1000000000 * (w : Int)) ≤ u ∧ u ≤ 1000000000 * (w : Int)
def stB (ns : List Nd) : List Vl → Nat → Prop
  | [], _ => True
  | v :: s, K => ∃ w, (1 ≤ w ∧ w ≤ K) ∧ bnd ns v w ∧ stB ns s (K - w)
theorem stB.up {ns : List Nd} : ∀ (s : List Vl) (K M : Nat), stB ns s K → K ≤ M → stB ns s M
  | [], _, _, _, _ => trivial
  | v :: s, K, M, h, hm => by
    obtain ⟨w, h1, h2, h3⟩ := h
    exact ⟨w, by omega, h2, stB.up s _ _ h3 (by omega)⟩
theorem stV.fr {ns : List Nd} {b : List Int32} {T : Tb} {nop : Nat} {σ τ : St} : ∀ (s : List Vl), stV ns b T nop σ s → (∀ i, i < s.length → τ.1 1359 i = σ.1 1359 i ∧ τ.2.1 1360 i = σ.2.1 1360 i) → stV ns b T nop τ s
  | [], _, _ => trivial
  | v :: s, h, g => by
    have e := g s.length (by rw [List.length_cons]; omega)
    refine ⟨by rw [e.1, e.2]; exact h.1, stV.fr s h.2 (fun i hi => g i (by rw [List.length_cons]; omega))⟩
section RHD
variable {F np nst npr nop : Nat} {b : List Int32} {ns : List Nd} {T : Tb} {PT : Nat → Sm} {σ : St} {v : Vl} {ty : Int32} {x : Int64}
theorem f236_e {s : List Vl} (h : stS ns b T nop σ s) (hl : s.length ≤ 125) (hv : vM ns b T nop ty x v) : ∃ τ, f236 F ty x σ = oV τ ∧ agH σ τ ∧ stS ns b T nop τ (v :: s) := by
  have i1 : inB (Int32.ofNat s.length) 130 := oN_rg (by omega) (by decide)
  have n1 := oN_n (show s.length < 2147483648 by omega)
  refine ⟨uI (uJ (uI σ 1359 s.length ty) 1360 s.length x) 1315 59 (Int32.ofNat (s.length + 1)), ?_, ⟨⟨rfl, fun A hA => uJ_ne hA⟩, fun A h1 h2 => ?_, fun j hj => ?_⟩, ?_, ?_, ?_⟩
  · unfold f236
    simp only [ltE, xI1, xJ1, h.1, if_pos i1, n1]
    simp only [reduceCtorEq, Nat.reduceEqDiff, false_and, if_false, if_pos i1, n1, h.1, oN_p1]
  · rw [u_ne h1]
    show (uI σ 1359 s.length ty).1 A = _
    rw [u_ne h2]
  · rw [xI1, if_neg (by omega), xJ1, xI1, if_neg (by omega)]
  · rw [u_eq]
    rfl
  · rw [xI1, if_neg (by omega), xJ1, xI1, if_pos ⟨rfl, rfl⟩, xI2, xJ2, if_pos ⟨rfl, rfl⟩]
    exact hv
  · refine stV.fr s h.2 (fun i hi => ⟨?_, ?_⟩)
    · rw [xI1, if_neg (by omega), xJ1, xI1, if_neg (by omega)]
    · rw [xI2, xJ2, if_neg (by omega)]
      rfl
theorem bnd.up {w z : Nat} (h : bnd ns v w) (hw : w ≤ z) : bnd ns v z := ⟨h.1, fun u hu => by have := h.2 u hu; omega⟩
theorem bnd_n {f : Int} (h : -1000000000 ≤ f ∧ f ≤ 1000000000) : bnd ns (vN (some f)) 1 := by
  refine ⟨Or.inl ⟨rfl, fun u hu => ?_⟩, fun u hu => ?_⟩
  · have hu : some f = some u := hu
    injection hu with hu
    omega
  · have hu : some f = some u := hu
    injection hu with hu
    omega
theorem bnd_b {z : Bool} : bnd ns (vB z) 1 := by
  refine ⟨vOK.b, fun u hu => ?_⟩
  have hu : some (if z = true then (1 : Int) else 0) = some u := hu
  injection hu with hu
  split at hu <;> omega
theorem bnd_s {z : Int32} (h : inN ns.length z) : bnd ns (vS z) 1 := by
  refine ⟨vOK.s h, fun u hu => ?_⟩
  have hu : numP ns (lowS z ns.length 0) = some u := hu
  unfold numP at hu
  split at hu
  · cases hu
  · have := numT_ok u hu
    omega
theorem bnd_t {s : List Int32} (h : okB s) (hl : s.length ≤ 5000) : bnd ns (vT s) 1 := by
  refine ⟨vOK.t h hl, fun u hu => ?_⟩
  have hu : numT s = some u := hu
  have := numT_ok u hu
  omega
theorem bnd_a {v w : Vl} {m n : Nat} {s : Bool} (h : bnd ns v m) (g : bnd ns w n) (hmn : m + n ≤ 200) : bnd ns (vN (addO s (nmV ns v) (nmV ns w))) (m + n) := by
  have key : ∀ u, addO s (nmV ns v) (nmV ns w) = some u → -(1000000000 * ((m + n : Nat) : Int)) ≤ u ∧ u ≤ 1000000000 * ((m + n : Nat) : Int) := by
    intro u hu
    cases h1 : nmV ns v with
    | none => rw [h1] at hu; cases hu
    | some p =>
      cases h2 : nmV ns w with
      | none => rw [h1, h2] at hu; cases hu
      | some q =>
        rw [h1, h2] at hu
        have a1 := h.2 p h1
        have a2 := g.2 q h2
        have hu : some (if s = true then p - q else p + q) = some u := hu
        injection hu with hu
        split at hu <;> omega
  refine ⟨Or.inl ⟨rfl, fun u hu => ?_⟩, key⟩
  have := key u hu
  omega
theorem opF_len {w : Nat × Nat × Nat × Nat} {n x t : Nat} {s : List Vl} : s.length ≤ (opF ns b PT w n x t s).length + 1 := by
  unfold opF
  repeat' split
  all_goals simp only [List.length_cons, List.length_replicate, List.length_nil]
  all_goals try omega
  rename_i g
  rcases s with _ | ⟨a, _ | ⟨c, l⟩⟩
  · exact Nat.zero_le _
  · show 1 ≤ 1001
    omega
  · exact (g _ _ _ rfl).elim
/-- no op finds too little on the stack -/
theorem skM_nu {r n x t : Nat} (hn : nop ≤ 121) (h1 : (skM ns b PT T r n x t nop).length = 1) : ∀ o, o < nop → (T.2.2.2 o).1 = r → ((T.2.2.2 o).2.1 = 6 → 1 ≤ (skM ns b PT T r n x t o).length) ∧ (7 ≤ (T.2.2.2 o).2.1 → 2 ≤ (skM ns b PT T r n x t o).length) := by
  have up : ∀ d o, o + d ≤ nop → (skM ns b PT T r n x t o).length ≤ (skM ns b PT T r n x t (o + d)).length + d := by
    intro d
    induction d with
    | zero => exact fun o _ => Nat.le_refl _
    | succ d ih =>
      intro o ho
      have i := ih o (by omega)
      have e : (skM ns b PT T r n x t (o + d)).length ≤ (skM ns b PT T r n x t (o + d + 1)).length + 1 := by
        show _ ≤ (if (T.2.2.2 (o + d)).1 = r then opF ns b PT (T.2.2.2 (o + d)) n x t (skM ns b PT T r n x t (o + d)) else skM ns b PT T r n x t (o + d)).length + 1
        split
        · exact opF_len
        · omega
      rw [show o + (d + 1) = o + d + 1 by omega]
      omega
  intro o ho hr
  have e1 : skM ns b PT T r n x t (o + 1) = opF ns b PT (T.2.2.2 o) n x t (skM ns b PT T r n x t o) := by
    show (if (T.2.2.2 o).1 = r then _ else _) = _
    rw [if_pos hr]
  have e2 := up (nop - (o + 1)) (o + 1) (by omega)
  rw [show o + 1 + (nop - (o + 1)) = nop by omega, h1, e1] at e2
  constructor
  · intro k6
    cases hs : skM ns b PT T r n x t o with
    | nil =>
      exfalso
      rw [hs] at e2
      unfold opF at e2
      rw [if_neg (by omega), if_neg (by omega), if_neg (by omega), if_neg (by omega), if_neg (by omega), if_neg (by omega), if_pos k6] at e2
      simp only [List.length_replicate] at e2
      omega
    | cons a l => simp
  · intro k7
    cases hs : skM ns b PT T r n x t o with
    | nil =>
      exfalso
      rw [hs] at e2
      unfold opF at e2
      rw [if_neg (by omega), if_neg (by omega), if_neg (by omega), if_neg (by omega), if_neg (by omega), if_neg (by omega), if_neg (by omega)] at e2
      simp only [List.length_replicate] at e2
      omega
    | cons a l =>
      cases l with
      | nil =>
        exfalso
        rw [hs] at e2
        unfold opF at e2
        rw [if_neg (by omega), if_neg (by omega), if_neg (by omega), if_neg (by omega), if_neg (by omega), if_neg (by omega), if_neg (by omega)] at e2
        simp only [List.length_replicate] at e2
        omega
      | cons c l => simp
end RHD
