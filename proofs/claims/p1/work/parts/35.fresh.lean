/-! THE CONSTRUCTORS: a closed run, and the law up to its loop -/
def hpOf (r : Option (Outcome × aH)) : aH := match r with
  | some (_, A) => A
  | none => []
def rtN (r : Option (Outcome × aH)) : Bool := match r with
  | some (.returned none, _) => true
  | _ => false
theorem rtN_ok {r : Option (Outcome × aH)} (h : rtN r = true) : r = some (.returned none, hpOf r) := by
  unfold rtN at h
  split at h
  · rfl
  · cases h
def H1 (v : Value) : aH := hpOf (aRun (99999, fun _ => 0, v) 3500 5 9 0 (aEntry 1 [.ref 1000]) [] [.inr (0, aDf 0)])
def H2 (v : Value) : aH := hpOf (aRun (99999, fun _ => 0, v) 3500 5 143 0 (aEntry 1 [.ref 1315]) [] (H1 v ++ [.inr (9, aDf 9)]))
def H3 (v : Value) : aH := H2 v ++ [.inl (3, 1, .inr (.inl (fun _ => 0)))]
def frB (v : Value) : Bool := rtN (aRun (99999, fun _ => 0, v) 3500 5 9 0 (aEntry 1 [.ref 1000]) [] [.inr (0, aDf 0)]) && decide ((H1 v).length = 315) && rtN (aRun (99999, fun _ => 0, v) 3500 5 143 0 (aEntry 1 [.ref 1315]) [] (H1 v ++ [.inr (9, aDf 9)])) && decide ((H2 v).length = 361)
abbrev lsH : aL := [some (.ref 0), some (.ref 1000), some (.ref 1315), some (.ref 1361), some (.int 0), none, none]
theorem law_head {sc : aSc} {d : Nat} {o : Outcome} {A' : aH} (hf : frB sc.2.2 = true) (hd : 6 ≤ d) (k : aEx sc d 2 23 lsH [] (H3 sc.2.2) o A') : aEx sc d 2 0 (aEntry 7 [.ref 0]) [] [] o A' := by
  unfold frB at hf
  simp only [Bool.and_eq_true, decide_eq_true_eq] at hf
  obtain ⟨⟨⟨f1, f2⟩, f3⟩, f4⟩ := hf
  obtain ⟨d1, rfl⟩ : ∃ d1, d = d1 + 1 := ⟨d - 1, by omega⟩
  have c1 : aEx sc d1 9 0 (aEntry 1 [.ref 1000]) [] [.inr (0, aDf 0)] (.returned none) (H1 sc.2.2) := ⟨3500, aRun_up _ _ _ _ _ _ _ _ (aRun_any _ _ _ _ _ _ _ _ (rtN_ok f1)) 3500 d1 (Nat.le_refl _) (by omega)⟩
  have c2 : aEx sc d1 143 0 (aEntry 1 [.ref 1315]) [] (H1 sc.2.2 ++ [.inr (9, aDf 9)]) (.returned none) (H2 sc.2.2) := ⟨3500, aRun_up _ _ _ _ _ _ _ _ (aRun_any _ _ _ _ _ _ _ _ (rtN_ok f3)) 3500 d1 (Nat.le_refl _) (by omega)⟩
  revert c1 c2 f2 f4 k
  unfold H3
  generalize H1 sc.2.2 = h1
  generalize H2 sc.2.2 = h2
  intro f4 f2 k c1 c2
  have e1 : (h1 ++ [(.inr (9, aDf 9) : aE)])[315]? = some (.inr (9, aDf 9)) := by
    rw [List.getElem?_append_right (by omega)]
    simp [f2]
  have g2 : aGo 143 (h1 ++ [.inr (9, aDf 9)]) [.ref 1315] = true := by
    unfold aGo
    rw [show aIc 143 = some 9 from rfl]
    dsimp only
    unfold aCl
    dsimp only
    rw [if_neg (by decide), show 1315 - 1000 = 315 from rfl, e1]
    rfl
  refine ex_step (i := (.new 8, 0, 0, .null)) (pc' := 3) (ls' := [some (.ref 0), none, none, none, none, none, none]) (st' := [.ref 1000]) (A1 := [.inr (0, aDf 0)]) rfl rfl rfl ?_
  refine ex_step (i := (.dup, 0, 0, .null)) (pc' := 4) (ls' := [some (.ref 0), none, none, none, none, none, none]) (st' := [.ref 1000, .ref 1000]) (A1 := [.inr (0, aDf 0)]) rfl rfl rfl ?_
  refine ex_call (i := (.invokespecial 38, 9, 1, .null)) (vs := [.ref 1000]) (rest := [.ref 1000]) rfl rfl (by decide) (by decide) (by decide) rfl rfl rfl c1 ?_
  refine ex_step (i := (.astore_n 1, 0, 0, .null)) (pc' := 8) (ls' := [some (.ref 0), some (.ref 1000), none, none, none, none, none]) (st' := []) (A1 := h1) rfl rfl rfl ?_
  refine ex_step (i := (.new 39, 9, 0, .null)) (pc' := 11) (ls' := [some (.ref 0), some (.ref 1000), none, none, none, none, none]) (st' := [.ref 1315]) (A1 := h1 ++ [.inr (9, aDf 9)]) rfl rfl (by simp only [aStep, f2]) ?_
  refine ex_step (i := (.dup, 0, 0, .null)) (pc' := 12) (ls' := [some (.ref 0), some (.ref 1000), none, none, none, none, none]) (st' := [.ref 1315, .ref 1315]) (A1 := h1 ++ [.inr (9, aDf 9)]) rfl rfl rfl ?_
  refine ex_call (i := (.invokespecial 41, 143, 1, .null)) (vs := [.ref 1315]) (rest := [.ref 1315]) rfl rfl (by decide) (by decide) (by decide) rfl rfl g2 c2 ?_
  refine ex_step (i := (.astore_n 2, 0, 0, .null)) (pc' := 16) (ls' := [some (.ref 0), some (.ref 1000), some (.ref 1315), none, none, none, none]) (st' := []) (A1 := h2) rfl rfl rfl ?_
  refine ex_step (i := (.iconst 1, 0, 0, .null)) (pc' := 17) (ls' := [some (.ref 0), some (.ref 1000), some (.ref 1315), none, none, none, none]) (st' := [.int 1]) (A1 := h2) rfl rfl rfl ?_
  refine ex_step (i := (.newarray .long, 0, 0, .null)) (pc' := 19) (ls' := [some (.ref 0), some (.ref 1000), some (.ref 1315), none, none, none, none]) (st' := [.ref 1361]) (A1 := h2 ++ [.inl (3, 1, .inr (.inl (fun _ => 0)))]) rfl rfl (by simp only [aStep, aNewA, f4]; rw [if_neg (by decide)]; rfl) ?_
  refine ex_step (i := (.astore_n 3, 0, 0, .null)) (pc' := 20) (ls' := [some (.ref 0), some (.ref 1000), some (.ref 1315), some (.ref 1361), none, none, none]) (st' := []) (A1 := h2 ++ [.inl (3, 1, .inr (.inl (fun _ => 0)))]) rfl rfl rfl ?_
  refine ex_step (i := (.iconst 0, 0, 0, .null)) (pc' := 21) (ls' := [some (.ref 0), some (.ref 1000), some (.ref 1315), some (.ref 1361), none, none, none]) (st' := [.int 0]) (A1 := h2 ++ [.inl (3, 1, .inr (.inl (fun _ => 0)))]) rfl rfl rfl ?_
  refine ex_step (i := (.istore 4, 0, 0, .null)) (pc' := 23) (ls' := lsH) (st' := []) (A1 := h2 ++ [.inl (3, 1, .inr (.inl (fun _ => 0)))]) rfl rfl rfl ?_
  exact k
