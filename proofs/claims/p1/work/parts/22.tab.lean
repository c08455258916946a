/-! WHAT THE TABLES OF A METHOD MUST BE: checked by the kernel, method by method -/
def excB (ci : Nat) : Bool := ci == 10 || ci == 11 || ci == 12 || ci == 13
theorem excB_ok {ci : Nat} (h : excB ci = true) : isExc ci := by
  simp only [excB, Bool.or_eq_true, beq_iff_eq] at h
  unfold isExc
  omega
def hdB (own : String) : List (Nat × Nat × Nat × Nat) → List (Nat × Nat × Nat × Nat) → List (Nat × Nat) → Bool
  | [], [], _ => true
  | h :: r, k :: r', w :: ws => (h.1 == k.1 && h.2.1 == k.2.1 && h.2.2.1 == k.2.2.1 && !(h.2.2.2 == 0) && excB k.2.2.2 && aHas w (.classLink own h.2.2.2 (aCn k.2.2.2))) && hdB own r r' ws
  | _, _, _ => false
theorem hdB_ok {own : String} : ∀ {xs hk : List (Nat × Nat × Nat × Nat)} {ws : List (Nat × Nat)}, hdB own xs hk ws = true → hdR own xs hk
  | [], [], _, _ => trivial
  | [], _ :: _, _, h => by simp [hdB] at h
  | _ :: _, [], _, h => by simp [hdB] at h
  | _ :: _, _ :: _, [], h => by simp [hdB] at h
  | x :: xs, k :: r, w :: ws, h => by
    rw [hdB, Bool.and_eq_true] at h
    refine ⟨?_, hdB_ok h.2⟩
    have h1 := h.1
    simp only [Bool.and_eq_true, beq_iff_eq, Bool.not_eq_true', beq_eq_false_iff_ne] at h1
    obtain ⟨⟨⟨⟨⟨g1, g2⟩, g3⟩, g4⟩, g5⟩, g6⟩ := h1
    exact ⟨g1, g2, g3, g4, excB_ok g5, aHas_ok g6⟩
def moB (M : Nat) (h : Nat × Nat) (hh : List (Nat × Nat)) : Bool :=
  ((decide (aHx M = []) && aHas h (.code (aNm M) (aBy M) (aMx M) (aRt M))) || aHas h (.codeWith (aNm M) (aBy M) (aMx M) (aRt M) (aHx M))) && decide (aMx M ≤ 40) && plainFor (aNm M) &&
  (!((aNm M).cls == "java/lang/invoke/MethodHandle") && !((aNm M).cls == "java/lang/invoke/VarHandle")) && hdB (aOw M) (aHx M) (aHd M) hh && (!((aNm M).name == "<init>") || aHas h (.code (aNm M) (aBy M) (aMx M) none))
theorem moB_ok {M : Nat} {h : Nat × Nat} {hh : List (Nat × Nat)} (hb : moB M h hh = true) : mOk M := by
  unfold moB at hb
  rw [Bool.and_eq_true, Bool.and_eq_true, Bool.and_eq_true, Bool.and_eq_true, Bool.and_eq_true, decide_eq_true_eq] at hb
  obtain ⟨⟨⟨⟨⟨h1, h2⟩, h3⟩, h4⟩, h5⟩, h6⟩ := hb
  refine ⟨?_, h2, h3, ?_, hdB_ok h5, fun hn => ?_⟩
  · rw [Bool.or_eq_true] at h1
    rcases h1 with h1 | h1
    · rw [Bool.and_eq_true, decide_eq_true_eq] at h1
      exact Or.inl ⟨h1.1, aHas_ok h1.2⟩
    · exact Or.inr (aHas_ok h1)
  · simpa using h4
  · rw [hn] at h6
    rw [Bool.or_eq_true] at h6
    rcases h6 with h6 | h6
    · simp at h6
    · exact aHas_ok h6
def rkB (M : Nat) : Bool := (aProg.getD M []).all (fun q => rtB q.2 (aRt M))
def okM (M : Nat) : Bool := ckB M && tkB M && rkB M && (decide (M < 3) || moB M (aMh.getD M ((9, 0), [])).1 (aMh.getD M ((9, 0), [])).2)
theorem aTb_mem {M pc : Nat} {i : aI} (h : aTb M pc = some i) : (pc, i) ∈ aProg.getD M [] := by
  unfold aTb at h
  obtain ⟨q, hq, rfl⟩ := Option.map_eq_some_iff.mp h
  have hm := List.mem_of_find?_eq_some hq
  have hp := List.find?_some hq
  rw [beq_iff_eq] at hp
  subst hp
  exact hm
theorem ckB_ok {M pc : Nat} {i : aI} (h : ckB M = true) (hi : aTb M pc = some i) : aOk M pc i := by
  have hm := aTb_mem hi
  unfold ckB at h
  revert hm h
  generalize aProg.getD M [] = P
  generalize aHn.getD M [] = G
  intro h hm
  rw [Bool.and_eq_true, decide_eq_true_eq] at h
  obtain ⟨b, hb⟩ := zip_in h.1 hm
  have h5 : aOkB M pc i b = true := List.all_eq_true.mp h.2 ((pc, i), b) hb
  exact aOkB_ok h5
theorem rkB_ok {M pc : Nat} {i : aI} (h : rkB M = true) (hi : aTb M pc = some i) : rtB i (aRt M) = true := List.all_eq_true.mp h _ (aTb_mem hi)
