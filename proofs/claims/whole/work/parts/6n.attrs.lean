/-! THE CLASS READS ALL ATTRIBUTES OF AN ELEMENT -/
def sAs (b : List Int32) (R lv fa : Nat) : Nat → Nat → List Nd → Nat ⊕ (Nat × List Nd)
  | 0, p, ns => .inr (p, ns)
  | n + 1, p, ns => if p < skp isBl b p ∧ isLet (b.getD (skp isBl b p) 0) = true then (match sAt b R ns.length (skp isBl b p) (ns.drop fa) with
    | .inl c => .inl c
    | .inr x => sAs b R lv fa n x.1 (ns ++ [(2, lv, x.2.1, x.2.2)])) else .inr (skp isBl b p, ns)
theorem sAt_R {b : List Int32} {R k p : Nat} {prev : List Nd} {x : Nat × List Int32 × List Int32} (h : sAt b R k p prev = .inr x) : k < R := by
  unfold sAt at h
  split at h
  · cases h
  · split at h
    · split at h
      · split at h
        · cases h
        · split at h
          · assumption
          · cases h
      · cases h
    · cases h
section ATS
variable {F R lv fa : Nat} {b : List Int32} {ts : List Int32}
theorem f114_10_z {σ : St} {n p t : Nat} {ns : List Nd} {ws : List Int32} (hF : 500 ≤ F) (hb : b.length ≤ 120) (h : cRd σ b p R ns ws ts) (hp : p ≤ b.length) (ht : t < 120) (hs : ¬ (p < skp isBl b p ∧ isLet (b.getD (skp isBl b p) 0) = true)) : f114_10 F (n + 1) (Int32.ofNat lv) (Int32.ofNat fa) (Int32.ofNat t) σ = oV (uI σ 1029 2 (Int32.ofNat (skp isBl b p))) := by
  have g2 := skp_le (f := isBl) hp
  rw [f114_10.eq_2, if_pos (show Int32.ofNat t < 120 from (oN_lt (q := 120) (by omega) (by decide)).mpr ht), ltE, h.2.1, ltE, h.1.1, f93_e hF hb h.1 hp, cIo, ltE, h.2.1]
  by_cases h1 : p < skp isBl b p
  · rw [if_pos ((oN_lt (by omega) (by omega)).mpr h1), f92_e h.1 hb (by omega), cIo, f22_e, cIo]
    have h2 : isLet (b.getD (skp isBl b p) 0) = false := by
      rw [← Bool.not_eq_true]
      exact fun hh => hs ⟨h1, hh⟩
    rw [h2, if_pos b2i_f]
    unfold f114_64 f114_65
    rw [ltE, if_pos rfl]
  · rw [if_neg (fun hh => h1 ((oN_lt (by omega) (by omega)).mp hh))]
    unfold f114_64 f114_65
    rw [ltE, if_pos rfl]
theorem f114_10_s {σ : St} {n p t : Nat} {ns : List Nd} {ws : List Int32} (hF : 500 ≤ F) (hb : b.length ≤ 120) (h : cRd σ b p R ns ws ts) (hp : p ≤ b.length) (ht : t < 120) (hs : p < skp isBl b p ∧ isLet (b.getD (skp isBl b p) 0) = true) : f114_10 F (n + 1) (Int32.ofNat lv) (Int32.ofNat fa) (Int32.ofNat t) σ = cV (f115 F (Int32.ofNat lv) (Int32.ofNat fa) (uI σ 1029 2 (Int32.ofNat (skp isBl b p)))) fun τ => f114_10 F n (Int32.ofNat lv) (Int32.ofNat fa) (Int32.ofNat (t + 1)) τ := by
  have g2 := skp_le (f := isBl) hp
  rw [f114_10.eq_2, if_pos (show Int32.ofNat t < 120 from (oN_lt (q := 120) (by omega) (by decide)).mpr ht), ltE, h.2.1, ltE, h.1.1, f93_e hF hb h.1 hp, cIo, ltE, h.2.1, if_pos ((oN_lt (by omega) (by omega)).mpr hs.1), f92_e h.1 hb (by omega), cIo, f22_e, cIo, hs.2, if_neg (show ¬ b2i true = 0 by decide)]
  unfold f114_65
  rw [ltE, if_neg (show ¬ (1 : Int32) = 0 by decide), oN_p1]
theorem f114_10_e (hF : 5000 ≤ F) (hb : b.length ≤ 120) (hO : okB b) (hR : R ≤ 30) (hfa : 1 ≤ fa) : ∀ (n k p t : Nat) (σ : St) (ns : List Nd) (ws : List Int32), cRd σ b p R ns ws ts → dOk p ns ws ts → ns.length ≤ 30 → fa ≤ ns.length → p ≤ b.length → b.length - p < n → t + (b.length - p) < 120 →
    match sAs b R lv fa n p ns with
    | .inl c => ∃ τ, f114_10 F (k + n) (Int32.ofNat lv) (Int32.ofNat fa) (Int32.ofNat t) σ = oT c τ ∧ agD σ τ
    | .inr x => ∃ τ, f114_10 F (k + n) (Int32.ofNat lv) (Int32.ofNat fa) (Int32.ofNat t) σ = oV τ ∧ agD σ τ ∧ (∃ ws', cRd τ b x.1 R x.2 ws' ts ∧ dOk x.1 x.2 ws' ts) ∧ x.2.length ≤ 30 ∧ p ≤ x.1 ∧ x.1 ≤ b.length := by
  intro n
  induction n with
  | zero => intro k p t σ ns ws _ _ _ _ _ h; omega
  | succ n ih =>
    intro k p t σ ns ws h hd hn hfl hp hlt ht
    have g1 := skp_ge (f := isBl) (b := b) (p := p)
    have g2 := skp_le (f := isBl) hp
    have h1 := h.mv (q := skp isBl b p)
    have hd1 : dOk (skp isBl b p) ns ws ts := ⟨hd.1, hd.2.1, by have := hd.2.2.1; omega, by have := hd.2.2.2; omega⟩
    have ag1 : agD σ (uI σ 1029 2 (Int32.ofNat (skp isBl b p))) := agD.refl.uI (by decide)
    rw [← Nat.add_assoc]
    unfold sAs
    by_cases hs : p < skp isBl b p ∧ isLet (b.getD (skp isBl b p) 0) = true
    · rw [if_pos hs, f114_10_s (by omega) hb h hp (by omega) hs]
      have m := f115_e (F := F) (lv := lv) hF hb hO h1 hd1 hR hn hfa hfl hs.2
      cases hr : sAt b R ns.length (skp isBl b p) (ns.drop fa) with
      | inl c =>
        rw [hr] at m
        obtain ⟨τ, m1, m2⟩ := m
        dsimp only
        rw [m1, cVt]
        exact ⟨τ, rfl, ag1.trans m2⟩
      | inr x =>
        rw [hr] at m
        obtain ⟨τ, m1, m2, ⟨ws', m3, m4⟩, m5, m6⟩ := m
        dsimp only
        rw [m1, cVo]
        have hk := sAt_R hr
        have i1 := ih k x.1 (t + 1) τ (ns ++ [(2, lv, x.2.1, x.2.2)]) ws' m3 m4 (by rw [List.length_append, List.length_cons, List.length_nil]; omega) (by rw [List.length_append]; omega) m6 (by omega) (by omega)
        cases hq : sAs b R lv fa n x.1 (ns ++ [(2, lv, x.2.1, x.2.2)]) with
        | inl c =>
          rw [hq] at i1
          obtain ⟨υ, j1, j2⟩ := i1
          exact ⟨υ, j1, (ag1.trans m2).trans j2⟩
        | inr y =>
          rw [hq] at i1
          obtain ⟨υ, j1, j2, j3, j4, j5, j6⟩ := i1
          exact ⟨υ, j1, (ag1.trans m2).trans j2, j3, j4, by omega, j6⟩
    · rw [if_neg hs, f114_10_z (by omega) hb h hp (by omega) hs]
      exact ⟨_, rfl, ag1, ⟨ws, h1, hd1⟩, hn, g1, g2⟩
end ATS
