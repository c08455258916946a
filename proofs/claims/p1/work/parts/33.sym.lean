/-! a step leaves tokens alone -/
def sGd (ins : Instr) (st st' : List Value) : Bool := match ins with
  | .getfield _ | .ldc _ | .ldc_w _ | .ldc2_w _ | .getstatic _ => (match st' with | .float _ :: _ => false | _ => true)
  | .putfield _ => (match st with | .float _ :: _ => false | _ => true)
  | _ => true
section SGS
variable {sc : aSc} {f : Nat → Int32} {ls ls' : aL} {st st' : List Value} {A A1 : aH} {pc pc' : Nat} {i : aI}
theorem sg_nf {v : Value} {r : List Value} (h : (match v :: r with | .float _ :: _ => false | _ => true) = true) : sg f v = v := by
  cases v <;> first | rfl | (simp at h)
theorem aRdI_sg {a t : Nat} {k : Int32} {w : Value} (h : aRdI sc A a t k = some w) : sg f w = w := by
  unfold aRdI at h
  split at h
  · split at h
    · cases h; rfl
    · cases h
  · cases h
theorem aRdL_sg {a : Nat} {k : Int32} {w : Value} (h : aRdL sc A a k = some w) : sg f w = w := by
  unfold aRdL at h
  split at h
  · split at h
    · cases h; rfl
    · cases h
  · cases h
theorem aRdR_sg {a : Nat} {k : Int32} {w : Value} (h : aRdR sc A a k = some w) : sg f w = w := by
  unfold aRdR at h
  split at h
  · rename_i g0 _
    split at h
    · cases h
      generalize g0 k.toNatClampNeg = o
      cases o <;> rfl
    · cases h
  · cases h
set_option maxHeartbeats 4000000 in
theorem aStep_sg (h : aStep sc i pc ls st A = some (pc', ls', st', A1)) (hg : sGd i.1 st st' = true) : aStep sc i pc (sgL f ls) (st.map (sg f)) A = some (pc', sgL f ls', st'.map (sg f), A1) := by
  obtain ⟨ins, x, y, v⟩ := i
  cases ins
  case ldc =>
    simp only [aStep, Option.some.injEq, Prod.mk.injEq] at h ⊢
    obtain ⟨rfl, rfl, rfl, rfl⟩ := h
    simp only [sGd] at hg
    exact ⟨rfl, rfl, by rw [List.map_cons, sg_nf hg], rfl⟩
  case ldc_w =>
    simp only [aStep, Option.some.injEq, Prod.mk.injEq] at h ⊢
    obtain ⟨rfl, rfl, rfl, rfl⟩ := h
    simp only [sGd] at hg
    exact ⟨rfl, rfl, by rw [List.map_cons, sg_nf hg], rfl⟩
  case ldc2_w =>
    simp only [aStep, Option.some.injEq, Prod.mk.injEq] at h ⊢
    obtain ⟨rfl, rfl, rfl, rfl⟩ := h
    simp only [sGd] at hg
    exact ⟨rfl, rfl, by rw [List.map_cons, sg_nf hg], rfl⟩
  case getstatic =>
    simp only [aStep, Option.some.injEq, Prod.mk.injEq] at h ⊢
    obtain ⟨rfl, rfl, rfl, rfl⟩ := h
    simp only [sGd] at hg
    exact ⟨rfl, rfl, by rw [List.map_cons, sg_nf hg], rfl⟩
  case getfield =>
    simp only [aStep, aPush] at h ⊢
    split at h
    · split at h
      · rename_i w e1
        simp only [Option.some.injEq, Prod.mk.injEq] at h
        obtain ⟨rfl, rfl, rfl, rfl⟩ := h
        simp only [sGd] at hg
        simp only [List.map_cons, sg_ref, e1, sg_nf hg]
      · cases h
    · cases h
  case putfield =>
    simp only [aStep] at h ⊢
    split at h
    · split at h
      · rename_i A2 e1
        simp only [Option.some.injEq, Prod.mk.injEq] at h
        obtain ⟨rfl, rfl, rfl, rfl⟩ := h
        simp only [sGd] at hg
        simp only [List.map_cons, sg_ref, sg_nf hg, e1]
      · cases h
    · cases h
  case dup =>
    simp only [aStep] at h ⊢
    split at h
    · split at h
      · rename_i hc
        simp only [Option.some.injEq, Prod.mk.injEq] at h
        obtain ⟨rfl, rfl, rfl, rfl⟩ := h
        simp only [List.map_cons, sg_cat, hc, if_true]
      · cases h
    · cases h
  case pop =>
    simp only [aStep] at h ⊢
    split at h
    · split at h
      · rename_i hc
        simp only [Option.some.injEq, Prod.mk.injEq] at h
        obtain ⟨rfl, rfl, rfl, rfl⟩ := h
        simp only [List.map_cons, sg_cat, hc, if_true]
      · cases h
    · cases h
  case dup_x1 =>
    simp only [aStep] at h ⊢
    split at h
    · split at h
      · rename_i hc
        simp only [Option.some.injEq, Prod.mk.injEq] at h
        obtain ⟨rfl, rfl, rfl, rfl⟩ := h
        simp only [List.map_cons, sg_cat, hc.1, hc.2, and_self, if_true]
      · cases h
    · cases h
  case dup_x2 =>
    simp only [aStep] at h ⊢
    split at h
    · split at h
      · rename_i hc
        simp only [Option.some.injEq, Prod.mk.injEq] at h
        obtain ⟨rfl, rfl, rfl, rfl⟩ := h
        simp only [List.map_cons, sg_cat, hc.1, hc.2.1, hc.2.2, and_self, if_true]
      · cases h
    · cases h
  case dup2 =>
    simp only [aStep] at h ⊢
    split at h
    · simp only [Option.some.injEq, Prod.mk.injEq] at h
      obtain ⟨rfl, rfl, rfl, rfl⟩ := h
      simp only [List.map_cons, sg_long]
    · rename_i a b r hn
      split at h
      · rename_i hc
        simp only [Option.some.injEq, Prod.mk.injEq] at h
        obtain ⟨rfl, rfl, rfl, rfl⟩ := h
        have h1 : (sg f a).category = 1 ∧ (sg f b).category = 1 := by rw [sg_cat, sg_cat]; exact hc
        cases a <;> simp_all [sg, Value.category]
      · cases h
    · cases h
  case iaload =>
    simp only [aStep, aPush] at h ⊢
    split at h
    · split at h
      · rename_i w e1
        simp only [Option.some.injEq, Prod.mk.injEq] at h
        obtain ⟨rfl, rfl, rfl, rfl⟩ := h
        simp only [List.map_cons, sg_int, sg_ref, e1, aRdI_sg e1]
      · cases h
    · cases h
  case caload =>
    simp only [aStep, aPush] at h ⊢
    split at h
    · split at h
      · rename_i w e1
        simp only [Option.some.injEq, Prod.mk.injEq] at h
        obtain ⟨rfl, rfl, rfl, rfl⟩ := h
        simp only [List.map_cons, sg_int, sg_ref, e1, aRdI_sg e1]
      · cases h
    · cases h
  case baload =>
    simp only [aStep, aPush] at h ⊢
    split at h
    · split at h
      · rename_i w e1
        simp only [Option.some.injEq, Prod.mk.injEq] at h
        obtain ⟨rfl, rfl, rfl, rfl⟩ := h
        simp only [List.map_cons, sg_int, sg_ref, e1, aRdI_sg e1]
      · cases h
    · cases h
  case laload =>
    simp only [aStep, aPush] at h ⊢
    split at h
    · split at h
      · rename_i w e1
        simp only [Option.some.injEq, Prod.mk.injEq] at h
        obtain ⟨rfl, rfl, rfl, rfl⟩ := h
        simp only [List.map_cons, sg_int, sg_ref, e1, aRdL_sg e1]
      · cases h
    · cases h
  case aaload =>
    simp only [aStep, aPush] at h ⊢
    split at h
    · split at h
      · rename_i w e1
        simp only [Option.some.injEq, Prod.mk.injEq] at h
        obtain ⟨rfl, rfl, rfl, rfl⟩ := h
        simp only [List.map_cons, sg_int, sg_ref, e1, aRdR_sg e1]
      · cases h
    · cases h
  all_goals (simp only [aStep, aLdI, aLdL, aLdA, aStI, aStL, aStA, aI2, aL2, aLS, aBr, aPush] at h ⊢)
  all_goals (repeat' (split at h))
  all_goals first
    | (cases h; done)
    | (simp only [Option.some.injEq, Prod.mk.injEq] at h; obtain ⟨rfl, rfl, rfl, rfl⟩ := h; simp_all [sg_int, sg_long, sg_ref, sg_null, sgL_ld, sgL_len, ← sgL_st1, ← sgL_st2]; done)
end SGS
