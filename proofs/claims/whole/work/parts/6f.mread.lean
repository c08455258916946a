/-! THE REFERENCE'S READER: its state, its small steps, a text -/
/-- a node made: kind, level, where its name stands in the buffer, where its text stands among the characters -/
abbrev Md : Type := Nat × Nat × Nat × Nat × Nat × Nat
def mRd (σ : St) (b : List Int32) (p : Nat) (ds : List Md) (cs : List Int32) : Prop := bufM σ b ∧ σ.1 1315 32 = Int32.ofNat p ∧ σ.1 1315 33 = 0 ∧ σ.1 1315 22 = Int32.ofNat ds.length ∧ (σ.1 1315 23 = Int32.ofNat cs.length ∧ ∀ j, j < cs.length → σ.1 1339 j = cs.getD j 0) ∧ ∀ (i : Nat) (x : Md), ds[i]? = some x → σ.1 1333 i = Int32.ofNat x.1 ∧ σ.1 1334 i = Int32.ofNat x.2.1 ∧ σ.1 1335 i = Int32.ofNat x.2.2.1 ∧ σ.1 1336 i = Int32.ofNat x.2.2.2.1 ∧ σ.1 1337 i = Int32.ofNat x.2.2.2.2.1 ∧ σ.1 1338 i = Int32.ofNat x.2.2.2.2.2
/-- nothing but what the reference reads with has changed -/
def agM (σ τ : St) : Prop := (∀ a, a < 1315 ∨ (1315 < a ∧ a < 1333) ∨ 1339 < a → τ.1 a = σ.1 a) ∧ (∀ j, j < 22 ∨ (23 < j ∧ j < 32) ∨ 33 < j → τ.1 1315 j = σ.1 1315 j) ∧ τ.2 = σ.2
theorem agM.refl {σ : St} : agM σ σ := ⟨fun _ _ => rfl, fun _ _ => rfl, rfl⟩
theorem agM.trans {σ τ υ : St} (h : agM σ τ) (g : agM τ υ) : agM σ υ := ⟨fun a ha => (g.1 a ha).trans (h.1 a ha), fun j hj => (g.2.1 j hj).trans (h.2.1 j hj), g.2.2.trans h.2.2⟩
theorem agM.uF {σ τ : St} {j : Nat} {x : Int32} (h : agM σ τ) (hj : j = 22 ∨ j = 23 ∨ j = 32 ∨ j = 33) : agM σ (uI τ 1315 j x) := ⟨fun a ha => by rw [u_ne (by omega)]; exact h.1 a ha, fun i hi => by rw [u_at, if_neg (by omega)]; exact h.2.1 i hi, h.2.2⟩
theorem agM.uA {σ τ : St} {a j : Nat} {x : Int32} (h : agM σ τ) (ha : 1333 ≤ a ∧ a ≤ 1339) : agM σ (uI τ a j x) := ⟨fun c hc => by rw [u_ne (by omega)]; exact h.1 c hc, fun i hi => by rw [u_ne (by omega)]; exact h.2.1 i hi, h.2.2⟩
section MRD
variable {F p q : Nat} {b : List Int32} {σ : St} {ds : List Md} {cs : List Int32}
theorem mRd.mv (h : mRd σ b p ds cs) : mRd (uI σ 1315 32 (Int32.ofNat q)) b q ds cs := by
  obtain ⟨h1, h2, h3, h4, ⟨h5, h6⟩, h7⟩ := h
  refine ⟨bufM_at h1, u_eq, ?_, ?_, ⟨?_, fun j hj => ?_⟩, fun i x hx => ?_⟩
  · rw [u_at, if_neg (by decide)]
    exact h3
  · rw [u_at, if_neg (by decide)]
    exact h4
  · rw [u_at, if_neg (by decide)]
    exact h5
  · rw [u_ne (by decide)]
    exact h6 j hj
  · rw [u_ne (by decide), u_ne (by decide), u_ne (by decide), u_ne (by decide), u_ne (by decide), u_ne (by decide)]
    exact h7 i x hx
def mCh (σ : St) (n : Nat) (c : Int32) : St := uI (uI σ 1339 n c) 1315 23 (Int32.ofNat (n + 1))
theorem mCh_ag {τ : St} {n : Nat} {c : Int32} (h : agM σ τ) : agM σ (mCh τ n c) := (h.uA (by decide)).uF (Or.inr (Or.inl rfl))
theorem mRd.ch {c : Int32} (h : mRd σ b p ds cs) : mRd (mCh σ cs.length c) b p ds (cs ++ [c]) := by
  obtain ⟨h1, h2, h3, h4, ⟨h5, h6⟩, h7⟩ := h
  unfold mCh
  refine ⟨⟨?_, fun j hj => ?_⟩, ?_, ?_, ?_, ⟨?_, fun j hj => ?_⟩, fun i x hx => ?_⟩
  · rw [u_at, if_neg (by decide), u_ne (by decide)]
    exact h1.1
  · rw [u_ne (by decide), u_ne (by decide)]
    exact h1.2 j hj
  · rw [u_at, if_neg (by decide), u_ne (by decide)]
    exact h2
  · rw [u_at, if_neg (by decide), u_ne (by decide)]
    exact h3
  · rw [u_at, if_neg (by decide), u_ne (by decide)]
    exact h4
  · rw [u_eq, List.length_append]
    rfl
  · rw [List.length_append, List.length_cons, List.length_nil] at hj
    rw [u_ne (by decide), u_at, getD_app]
    by_cases hk : j = cs.length
    · rw [if_pos hk, if_neg (by omega), hk, Nat.sub_self]
      rfl
    · rw [if_neg hk, if_pos (by omega)]
      exact h6 j (by omega)
  · rw [u_ne (by decide), u_ne (by decide), u_ne (by decide), u_ne (by decide), u_ne (by decide), u_ne (by decide), u_ne (by decide), u_ne (by decide), u_ne (by decide), u_ne (by decide), u_ne (by decide), u_ne (by decide)]
    exact h7 i x hx
theorem f154_e {x : Int32} (h : σ.1 1315 33 = 0) : f154 F x σ = oI 0 (uI σ 1315 33 x) := by
  unfold f154
  rw [ltE, h, if_pos rfl, ltE]
theorem f158_e {c : Int32} (h : mRd σ b p ds cs) (hc : cs.length < 122) : f158 F c σ = oV (mCh σ cs.length c) := by
  unfold f158 mCh
  rw [ltE, h.2.2.2.2.1.1, if_pos (oN_rg hc (by decide)), ltE, oN_n (by omega), ltE, u_ne (by decide), h.2.2.2.2.1.1, oN_p1, ltE]
theorem f159_e {c : Int32} (hb : b.length ≤ 120) (h : mRd σ b p ds cs) (hp : p ≤ 1000) : f159 F c σ = if b.getD p 0 = c then oI 1 (uI σ 1315 32 (Int32.ofNat (p + 1))) else oI 0 (uI σ 1315 33 1) := by
  unfold f159
  rw [ltE, h.2.1, f152_e h.1 hb (by omega), cIo, ltE, h.2.1, oN_p1, ltE, f154_e h.2.2.1, cIo, if_pos (Or.inl rfl)]
theorem f169_e {c : Int32} : f169 F c σ = oI (Int32.ofNat (entL c)) σ := by
  unfold f169 entL
  by_cases h1 : c = 60
  · rw [if_pos h1, if_pos h1]
    rfl
  · rw [if_neg h1, if_neg h1]
    by_cases h2 : c = 62
    · rw [if_pos h2, if_pos h2]
      rfl
    · rw [if_neg h2, if_neg h2]
      by_cases h3 : c = 38
      · rw [if_pos h3, if_pos h3]
        rfl
      · rw [if_neg h3, if_neg h3]
        rfl
theorem f167_e (hb : b.length ≤ 120) (h : mRd σ b p ds cs) (hc : cs.length < 122) (hp : p ≤ 1000) : f167 F σ = match rdCh b p with
    | none => oI 0 (uI σ 1315 33 1)
    | some x => oI 1 (uI (mCh σ cs.length x.1) 1315 32 (Int32.ofNat x.2)) := by
  unfold f167 rdCh
  have a1 : ∀ c, (mCh σ cs.length c).1 1315 32 = Int32.ofNat p := fun c => (h.ch (c := c)).2.1
  rw [ltE, h.2.1, f152_e h.1 hb (by omega), cIo]
  by_cases h3 : b.getD p 0 = 38
  · rw [if_pos h3, if_neg (show ¬ (b.getD p 0 = 60 ∨ b.getD p 0 = 0) by rw [h3]; decide), if_pos h3, ltE, h.2.1, f168_e hb h.1 hp, cIo]
    by_cases h4 : ent b p = 0
    · rw [if_pos h4, if_pos h4, f154_e h.2.2.1, cIo, if_pos (Or.inl rfl)]
    · rw [if_neg h4, if_neg h4, f158_e h hc, cVo, ltE, a1, f169_e, cIo, oN_ad, ltE]
  · rw [if_neg h3]
    by_cases h0 : b.getD p 0 = 0
    · rw [if_pos h0, if_pos (show b.getD p 0 = 60 ∨ b.getD p 0 = 0 from Or.inr h0), f154_e h.2.2.1, cIo, if_pos (Or.inl rfl)]
    · rw [if_neg h0]
      by_cases h6 : b.getD p 0 = 60
      · rw [if_pos h6, if_pos (show b.getD p 0 = 60 ∨ b.getD p 0 = 0 from Or.inl h6), f154_e h.2.2.1, cIo, if_pos (Or.inl rfl)]
      · rw [if_neg h6, if_neg (show ¬ (b.getD p 0 = 60 ∨ b.getD p 0 = 0) from fun hh => hh.elim h6 h0), if_neg h3, f158_e h hc, cVo, ltE, a1, oN_p1, ltE]
theorem f170_19_z {n : Nat} {s : Int32} (hb : b.length ≤ 120) (h : mRd σ b p ds cs) (hp : p ≤ 1000) (hs : stT (b.getD p 0) = true) : f170_19 F (n + 1) s σ = f170_52 F s σ := by
  simp only [stT, Bool.or_eq_true, decide_eq_true_eq] at hs
  rw [f170_19.eq_2, ltE, h.2.1, f152_e h.1 hb (by omega), cIo]
  by_cases h0 : b.getD p 0 = 0
  · rw [if_pos h0]
  · rw [if_neg h0, ltE, h.2.1, f152_e h.1 hb (by omega), cIo, if_pos (hs.elim id (fun hh => absurd hh h0))]
theorem f170_19_s {n : Nat} {s : Int32} (hb : b.length ≤ 120) (h : mRd σ b p ds cs) (hc : cs.length < 122) (hp : p ≤ 1000) (hs : stT (b.getD p 0) = false) : f170_19 F (n + 1) s σ = match rdCh b p with
    | none => oI 0 (uI σ 1315 33 1)
    | some x => f170_19 F n s (uI (mCh σ cs.length x.1) 1315 32 (Int32.ofNat x.2)) := by
  simp only [stT, Bool.or_eq_false_iff, decide_eq_false_iff_not] at hs
  rw [f170_19.eq_2, ltE, h.2.1, f152_e h.1 hb (by omega), cIo, if_neg hs.2, ltE, h.2.1, f152_e h.1 hb (by omega), cIo, if_neg hs.1, f167_e hb h hc hp]
  cases rdCh b p with
  | none =>
    dsimp only
    rw [cIo, if_pos rfl]
  | some x =>
    dsimp only
    rw [cIo, if_neg (by decide)]
end MRD
theorem f170_19_e {F : Nat} {b : List Int32} {ds : List Md} {s : Int32} (hb : b.length ≤ 120) (hO : okB b) : ∀ (n k p : Nat) (σ : St) (cs : List Int32), mRd σ b p ds cs → p ≤ b.length → b.length - p < n → cs.length + (b.length - p) ≤ 121 →
    (rdT b stT n p = none ∧ ∃ τ, f170_19 F (k + n) s σ = oI 0 τ ∧ agM σ τ ∧ τ.1 1315 33 = 1) ∨ (∃ q es τ, rdT b stT n p = some (q, es) ∧ f170_19 F (k + n) s σ = f170_52 F s τ ∧ agM σ τ ∧ mRd τ b q ds (cs ++ es)) := by
  intro n
  induction n with
  | zero => intro k p σ cs _ _ h; omega
  | succ n ih =>
    intro k p σ cs h hp hn hc
    rw [← Nat.add_assoc]
    unfold rdT
    by_cases hs : stT (b.getD p 0) = true
    · rw [if_pos hs]
      refine Or.inr ⟨p, [], σ, rfl, f170_19_z hb h (by omega) hs, agM.refl, ?_⟩
      rw [List.append_nil]
      exact h
    · rw [if_neg hs]
      rw [Bool.not_eq_true] at hs
      have hl : p < b.length := by
        simp only [stT, Bool.or_eq_false_iff, decide_eq_false_iff_not] at hs
        exact nz_lt hs.2
      rw [f170_19_s hb h (by omega) (by omega) hs]
      cases hr : rdCh b p with
      | none => exact Or.inl ⟨rfl, _, rfl, agM.refl.uF (Or.inr (Or.inr (Or.inr rfl))), u_eq⟩
      | some x =>
        obtain ⟨c, q⟩ := x
        obtain ⟨g1, g2, g3, g4⟩ := rdCh_ok hO hr
        dsimp only
        have h2 := (h.ch (c := c)).mv (q := q)
        have ag1 : agM σ (uI (mCh σ cs.length c) 1315 32 (Int32.ofNat q)) := (mCh_ag agM.refl).uF (Or.inr (Or.inr (Or.inl rfl)))
        rcases ih k q _ _ h2 g2 (by omega) (by rw [List.length_append, List.length_cons, List.length_nil]; omega) with ⟨e1, τ, e2, e3, e4⟩ | ⟨q2, es, τ, e1, e2, e3, e4⟩
        · rw [e1]
          exact Or.inl ⟨rfl, τ, e2, ag1.trans e3, e4⟩
        · rw [e1]
          refine Or.inr ⟨q2, c :: es, τ, rfl, e2, ag1.trans e3, ?_⟩
          rw [List.append_assoc] at e4
          exact e4
