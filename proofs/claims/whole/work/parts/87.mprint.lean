/-! THE REFERENCE PRINTS: its small steps -/
def mP (σ : St) (w : Int32) (s : Nat) (ch : Int32) : Prop := σ.1 1315 62 = w ∧ σ.1 1315 63 = Int32.ofNat s ∧ σ.1 1315 64 = ch
def agW (σ τ : St) : Prop := (∀ a, a ≠ 1315 → τ.1 a = σ.1 a) ∧ (∀ j, j ≠ 63 → j ≠ 64 → τ.1 1315 j = σ.1 1315 j) ∧ τ.2 = σ.2
theorem agW.refl {σ : St} : agW σ σ := ⟨fun _ _ => rfl, fun _ _ _ => rfl, rfl⟩
theorem agW.trans {σ τ υ : St} (h : agW σ τ) (g : agW τ υ) : agW σ υ := ⟨fun a ha => (g.1 a ha).trans (h.1 a ha), fun j h1 h2 => (g.2.1 j h1 h2).trans (h.2.1 j h1 h2), g.2.2.trans h.2.2⟩
theorem agW.m {σ τ : St} {ns : List Nd} (h : agW σ τ) (g : mTr σ ns) : mTr τ ns := g.fr (fun a _ _ => h.1 a (by omega)) (h.2.1 3 (by decide) (by decide))
def emM (ns : List Nd) (f : St → Rs) (l : List Int32) : Prop := ∀ (σ : St) (w : Int32) (s : Nat) (ch : Int32), mTr σ ns → mP σ w s ch → ∃ τ, f σ = oV τ ∧ agW σ τ ∧ mP τ w (s + l.length) (pick w s ch l)
section EMM
variable {F : Nat} {ns : List Nd}
theorem emM.nil : emM ns (fun σ => oV σ) [] := fun σ w s ch _ h => ⟨σ, rfl, agW.refl, h⟩
theorem emM.seq {f g : St → Rs} {l1 l2 : List Int32} (h1 : emM ns f l1) (h2 : emM ns g l2) : emM ns (fun σ => cV (f σ) g) (l1 ++ l2) := fun σ w s ch ht h => by
  obtain ⟨τ, a1, a2, a3⟩ := h1 σ w s ch ht h
  obtain ⟨υ, b1, b2, b3⟩ := h2 τ w _ _ (a2.m ht) a3
  refine ⟨υ, ?_, a2.trans b2, ?_⟩
  · dsimp only
    rw [a1, cVo, b1]
  · rw [List.length_append, pick_app, ← Nat.add_assoc]
    exact b3
theorem emM.cg {f g : St → Rs} {l : List Int32} (h : emM ns f l) (e : ∀ σ, mTr σ ns → g σ = f σ) : emM ns g l := fun σ w s ch ht hp => by
  obtain ⟨τ, a1, a2⟩ := h σ w s ch ht hp
  exact ⟨τ, (e σ ht).trans a1, a2⟩
theorem f199_e {c : Int32} : emM ns (f199 F c) [c] := fun σ w s ch _ h => by
  obtain ⟨h1, h2, h3⟩ := h
  unfold f199
  rw [ltE, h2, ltE, h1]
  by_cases hc : Int32.ofNat s = w
  · rw [if_pos hc, ltE, ltE, u_at, if_neg (by decide), h2, oN_p1, ltE]
    refine ⟨_, rfl, ⟨fun a ha => by rw [u_ne ha, u_ne ha], fun j j1 j2 => by rw [u_at, if_neg j1, u_at, if_neg j2], rfl⟩, ?_, u_eq, ?_⟩
    · rw [u_at, if_neg (by decide), u_at, if_neg (by decide)]
      exact h1
    · rw [u_at, if_neg (by decide), u_eq]
      unfold pick pick
      rw [if_pos hc]
  · rw [if_neg hc, ltE, ltE, ltE, u_at, if_neg (by decide), h2, oN_p1, ltE]
    refine ⟨_, rfl, ⟨fun a ha => by rw [u_ne ha, u_ne ha], fun j j1 j2 => by rw [u_at, if_neg j1, u_at, if_neg j2], rfl⟩, ?_, u_eq, ?_⟩
    · rw [u_at, if_neg (by decide), u_at, if_neg (by decide)]
      exact h1
    · rw [u_at, if_neg (by decide), u_eq, h3]
      unfold pick pick
      rw [if_neg hc]
theorem f200_2_e {p : Nat} (hn : ns.length ≤ 30) (hp : p < ns.length) : ∀ (m k j : Nat), j + m = (nd ns p).2.2.1.length → emM ns (fun σ => f200_2 F (k + m + 1) (Int32.ofNat p) (Int32.ofNat j) σ) ((nd ns p).2.2.1.drop j) := by
  have i1 : inB (Int32.ofNat p) 31 := oN_rg (by omega) (by decide)
  have q1 := oN_n (show p < 2147483648 by omega)
  intro m
  induction m with
  | zero =>
    intro k j hj σ w s ch ht h
    have m0 := (ht.2 p hp).1
    obtain ⟨m1, m2, m3, m4, na, ta, m5, m6, m7, m8, m9, m10⟩ := m0
    refine ⟨σ, ?_, agW.refl, ?_⟩
    · dsimp only
      rw [f200_2.eq_2, if_pos i1, ltE]
      simp only [q1]
      rw [m3, if_neg (fun g => by have := (oN_lt (by omega) (by omega)).mp g; omega)]
    · rw [List.drop_eq_nil_of_le (by omega)]
      exact h
  | succ m ih =>
    intro k j hj
    have e : (nd ns p).2.2.1.drop j = [(nd ns p).2.2.1.getD j 0] ++ (nd ns p).2.2.1.drop (j + 1) := by
      rw [List.drop_eq_getElem_cons (by omega), getD_lt (by omega)]
      rfl
    have i2 := ih k (j + 1) (by omega)
    rw [e]
    refine ((f199_e (F := F)).seq i2).cg (fun σ ht => ?_)
    obtain ⟨m1, m2, m3, m4, na, ta, m5, m6, m7, m8, m9, m10⟩ := (ht.2 p hp).1
    rw [show k + (m + 1) + 1 = (k + m + 1) + 1 by omega, f200_2.eq_2, if_pos i1, ltE]
    simp only [q1]
    rw [m3, if_pos ((oN_lt (by omega) (by omega)).mpr (by omega)), if_pos i1, ltE, m5, oN_ad, if_pos (oN_rg (by omega) (by decide)), ltE, oN_n (by omega), m9 j (by omega), oN_p1]
theorem f200_e {p : Nat} (hF : 5000 ≤ F) (hs : szOk ns) (hp : p < ns.length) : emM ns (fun σ => f200 F (Int32.ofNat p) σ) (nd ns p).2.2.1 := by
  have hn := hs.1.1
  have kl := (flW_name (rest := []) (nd_some hp)).2
  have s2 := hs.2.2
  obtain ⟨k, hk⟩ : ∃ k, F = k + (nd ns p).2.2.1.length + 1 := ⟨F - (nd ns p).2.2.1.length - 1, by omega⟩
  have a0 := f200_2_e (F := F) hn hp (nd ns p).2.2.1.length k 0 (by omega)
  rw [← hk, List.drop_zero] at a0
  exact a0
theorem f203_e {a b : Int32} {c d : Int32} {l : List Int32} (hc : l = (if c = 0 then [] else [c]) ++ (if d = 0 then [] else [d])) : emM ns (fun σ => f203 F a b c d σ) ([38, a, b] ++ l ++ [59]) := by
  have e59 : emM ns (fun σ => cV (f199 F 59 σ) fun σ7 => oV σ7) [59] := by
    have z := (f199_e (F := F) (ns := ns) (c := 59)).seq emM.nil
    rw [List.append_nil] at z
    exact z
  have eD : emM ns (fun σ => f203_25 F d σ) ((if d = 0 then [] else [d]) ++ [59]) := by
    by_cases h : d = 0
    · rw [if_pos h, List.nil_append]
      exact e59.cg (fun σ _ => by unfold f203_25; rw [if_pos h])
    · rw [if_neg h]
      exact ((f199_e (F := F)).seq e59).cg (fun σ _ => by unfold f203_25; rw [if_neg h])
  have eC : emM ns (fun σ => if c = 0 then f203_25 F d σ else cV (f199 F c σ) fun σ13 => f203_25 F d σ13) ((if c = 0 then [] else [c]) ++ ((if d = 0 then [] else [d]) ++ [59])) := by
    by_cases h : c = 0
    · rw [if_pos h, List.nil_append]
      exact eD.cg (fun σ _ => by rw [if_pos h])
    · rw [if_neg h]
      exact ((f199_e (F := F)).seq eD).cg (fun σ _ => by rw [if_neg h])
  have all := (f199_e (F := F) (c := 38)).seq ((f199_e (F := F) (c := a)).seq ((f199_e (F := F) (c := b)).seq eC))
  have el : [38, a, b] ++ l ++ [59] = [38] ++ ([a] ++ ([b] ++ ((if c = 0 then [] else [c]) ++ ((if d = 0 then [] else [d]) ++ [59])))) := by
    rw [hc]
    simp only [List.append_assoc, List.cons_append, List.nil_append]
  rw [el]
  exact all
def txL (k : Nat) (l : List Int32) : List Int32 := if k = 4 then l else escL k l
def txC (k : Nat) (c : Int32) : List Int32 := if k = 4 then [c] else escC k c
theorem txL_c {k : Nat} {c : Int32} {l : List Int32} : txL k (c :: l) = txC k c ++ txL k l := by
  unfold txL txC
  by_cases h : k = 4
  · rw [if_pos h, if_pos h, if_pos h]
    rfl
  · rw [if_neg h, if_neg h, if_neg h]
    rfl
theorem f202_2_e {p : Nat} (hs : szOk ns) (hp : p < ns.length) : ∀ (m k j : Nat), j + m = (nd ns p).2.2.2.length → emM ns (fun σ => f202_2 F (k + m + 1) (Int32.ofNat p) (Int32.ofNat j) σ) (txL (nd ns p).1 ((nd ns p).2.2.2.drop j)) := by
  have hn := hs.1.1
  have bk := (hs.1.2 p hp).2
  have i1 : inB (Int32.ofNat p) 31 := oN_rg (by omega) (by decide)
  have q1 := oN_n (show p < 2147483648 by omega)
  intro m
  induction m with
  | zero =>
    intro k j hj σ w s ch ht h
    obtain ⟨m1, m2, m3, m4, na, ta, m5, m6, m7, m8, m9, m10⟩ := (ht.2 p hp).1
    refine ⟨σ, ?_, agW.refl, ?_⟩
    · dsimp only
      rw [f202_2.eq_2, if_pos i1, ltE]
      simp only [q1]
      rw [m4, if_neg (fun g => by have := (oN_lt (by omega) (by omega)).mp g; omega)]
    · rw [List.drop_eq_nil_of_le (by omega)]
      unfold txL escL
      split <;> exact h
  | succ m ih =>
    intro k j hj
    have e : (nd ns p).2.2.2.drop j = (nd ns p).2.2.2.getD j 0 :: (nd ns p).2.2.2.drop (j + 1) := by
      rw [List.drop_eq_getElem_cons (by omega), getD_lt (by omega)]
    have i2 := ih k (j + 1) (by omega)
    rw [e, txL_c]
    generalize hcc : (nd ns p).2.2.2.getD j 0 = c
    have st : ∀ σ, mTr σ ns → f202_2 F (k + (m + 1) + 1) (Int32.ofNat p) (Int32.ofNat j) σ = cV (if (nd ns p).1 = 4 then f199 F c σ else if c = 38 then f203 F 97 109 112 0 σ else if c = 60 then f203 F 108 116 0 0 σ else if c = 34 ∧ (nd ns p).1 = 2 then f203 F 113 117 111 116 σ else f199 F c σ) fun τ => f202_2 F (k + m + 1) (Int32.ofNat p) (Int32.ofNat (j + 1)) τ := fun σ ht => by
      obtain ⟨m1, m2, m3, m4, na, ta, m5, m6, m7, m8, m9, m10⟩ := (ht.2 p hp).1
      rw [show k + (m + 1) + 1 = (k + m + 1) + 1 by omega, f202_2.eq_2, if_pos i1, ltE]
      simp only [q1]
      rw [m4, if_pos ((oN_lt (by omega) (by omega)).mpr (by omega)), if_pos i1, ltE, m6, oN_ad, if_pos (oN_rg (by omega) (by decide)), ltE, if_pos i1, ltE, oN_n (show ta + j < 2147483648 by omega), m10 j (by omega), hcc, m1]
      unfold f202_41 f202_68 f202_92 f202_123 f202_128
      rw [oN_p1]
      by_cases k4 : (nd ns p).1 = 4
      · rw [if_pos (show Int32.ofNat (nd ns p).1 = 4 by rw [k4]; rfl), if_pos k4]
        by_cases c1 : c = 38
        · rw [if_pos c1, if_neg (show ¬ (1 : Int32) = 0 by decide), if_neg (show ¬ c = 60 by rw [c1]; decide), if_neg (show ¬ c = 34 by rw [c1]; decide)]
        · rw [if_neg c1]
          by_cases c2 : c = 60
          · rw [if_pos c2, if_neg (show ¬ (1 : Int32) = 0 by decide), if_neg (show ¬ c = 34 by rw [c2]; decide)]
          · rw [if_neg c2]
            by_cases c3 : c = 34
            · rw [if_pos c3, if_pos i1, ltE, oN_n (by omega), m1, k4, if_neg (show ¬ Int32.ofNat 4 = 2 by decide)]
            · rw [if_neg c3]
      · rw [if_neg (fun g => k4 ((oE4 (by omega)).mp g)), if_neg k4]
        by_cases c1 : c = 38
        · rw [if_pos c1, if_pos rfl, if_pos c1]
        · rw [if_neg c1, if_neg c1]
          by_cases c2 : c = 60
          · rw [if_pos c2, if_pos rfl, if_pos c2]
          · rw [if_neg c2, if_neg c2]
            by_cases c3 : c = 34
            · rw [if_pos c3, if_pos i1, ltE, oN_n (by omega), m1]
              by_cases k2 : (nd ns p).1 = 2
              · rw [if_pos (show Int32.ofNat (nd ns p).1 = 2 by rw [k2]; rfl), if_pos (show c = 34 ∧ (nd ns p).1 = 2 from ⟨c3, k2⟩)]
              · rw [if_neg (fun g => k2 ((oE2 (by omega)).mp g)), if_neg (show ¬ (c = 34 ∧ (nd ns p).1 = 2) from fun g => k2 g.2)]
            · rw [if_neg c3, if_neg (show ¬ (c = 34 ∧ (nd ns p).1 = 2) from fun g => c3 g.1)]
    unfold txC escC
    by_cases k4 : (nd ns p).1 = 4
    · rw [if_pos k4]
      exact ((f199_e (F := F)).seq i2).cg (fun σ ht => by rw [st σ ht, if_pos k4])
    · rw [if_neg k4]
      by_cases c1 : c = 38
      · rw [if_pos c1]
        exact ((f203_e (F := F) (a := 97) (b := 109) (c := 112) (d := 0) (l := [112]) rfl).seq i2).cg (fun σ ht => by rw [st σ ht, if_neg k4, if_pos c1])
      · rw [if_neg c1]
        by_cases c2 : c = 60
        · rw [if_pos c2]
          exact ((f203_e (F := F) (a := 108) (b := 116) (c := 0) (d := 0) (l := []) rfl).seq i2).cg (fun σ ht => by rw [st σ ht, if_neg k4, if_neg c1, if_pos c2])
        · rw [if_neg c2]
          by_cases c3 : c = 34 ∧ (nd ns p).1 = 2
          · rw [if_pos c3]
            exact ((f203_e (F := F) (a := 113) (b := 117) (c := 111) (d := 116) (l := [111, 116]) rfl).seq i2).cg (fun σ ht => by rw [st σ ht, if_neg k4, if_neg c1, if_neg c2, if_pos c3])
          · rw [if_neg c3]
            exact ((f199_e (F := F)).seq i2).cg (fun σ ht => by rw [st σ ht, if_neg k4, if_neg c1, if_neg c2, if_neg c3])
theorem f202_e {p : Nat} (hF : 5000 ≤ F) (hs : szOk ns) (hl : (nd ns p).2.2.2.length ≤ 4300) (hp : p < ns.length) : emM ns (fun σ => f202 F (Int32.ofNat p) σ) (txL (nd ns p).1 (nd ns p).2.2.2) := by
  obtain ⟨k, hk⟩ : ∃ k, F = k + (nd ns p).2.2.2.length + 1 := ⟨F - (nd ns p).2.2.2.length - 1, by omega⟩
  have a0 := f202_2_e (F := F) hs hp (nd ns p).2.2.2.length k 0 (by omega)
  rw [← hk, List.drop_zero] at a0
  exact a0
end EMM
