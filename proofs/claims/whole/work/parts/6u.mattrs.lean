/-! THE REFERENCE READS ALL ATTRIBUTES AND THE END OF A HEAD -/
def hdE (b : List Int32) (q : Nat) (ns : List Nd) : Nat ⊕ (Nat × List Nd × Bool) := if b.getD q 0 = 62 then .inr (q + 1, ns, true) else if b.getD q 0 = 47 then (if b.getD (q + 1) 0 = 62 then .inr (q + 2, ns, false) else .inl 10) else .inl 10
def sHe (b : List Int32) (R lv fa n p : Nat) (ns : List Nd) : Nat ⊕ (Nat × List Nd × Bool) := match sAs b R lv fa n p ns with
  | .inl c => .inl c
  | .inr x => hdE b x.1 x.2
section HEQ
variable {b : List Int32} {R lv fa n p : Nat} {ns : List Nd}
theorem sHe_s (hs : p < skp isBl b p ∧ isLet (b.getD (skp isBl b p) 0) = true) : sHe b R lv fa (n + 1) p ns = match sAt b R ns.length (skp isBl b p) (ns.drop fa) with
    | .inl c => .inl c
    | .inr x => sHe b R lv fa n x.1 (ns ++ [(2, lv, x.2.1, x.2.2)]) := by
  unfold sHe
  rw [sAs.eq_2, if_pos hs]
  cases sAt b R ns.length (skp isBl b p) (ns.drop fa) with
  | inl c => rfl
  | inr x => rfl
theorem sHe_z (hs : ¬ (p < skp isBl b p ∧ isLet (b.getD (skp isBl b p) 0) = true)) : sHe b R lv fa (n + 1) p ns = hdE b (skp isBl b p) ns := by
  unfold sHe
  rw [sAs.eq_2, if_neg hs]
end HEQ
section MAS
variable {F R base th el lv : Nat} {b : List Int32} {pre : List Nd}
theorem f162_75_e (hF : 5000 ≤ F) (hb : b.length ≤ 120) (hO : okB b) (ht : th ≤ 30) (hR : R = 30 - th + pre.length) (hR3 : R ≤ 30) : ∀ (n k p : Nat) (σ : St) (ns : List Nd) (ds : List Md) (cs : List Int32), mRd σ b p ds cs → rel b base pre ns ds cs → ns.length ≤ 30 → el + 1 ≤ ds.length → cs.length ≤ p → p ≤ b.length → b.length - p < n →
    match sHe b R (lv + 1 + base) (pre.length + (el + 1)) n p ns with
    | .inl c => ∃ τ, f162_75 F (k + n) (Int32.ofNat lv) (Int32.ofNat th) (Int32.ofNat el) σ = oI 0 τ ∧ agM σ τ ∧ τ.1 1315 33 = wr c
    | .inr x => ∃ τ ds' cs', f162_75 F (k + n) (Int32.ofNat lv) (Int32.ofNat th) (Int32.ofNat el) σ = oI (if x.2.2 = true then 1 else 2) τ ∧ agM σ τ ∧ mRd τ b x.1 (ds ++ ds') cs' ∧ rel b base pre x.2.1 (ds ++ ds') cs' ∧ x.2.1.length ≤ 30 ∧ cs'.length ≤ x.1 ∧ p < x.1 ∧ x.1 ≤ b.length := by
  intro n
  induction n with
  | zero => intro k p σ ns ds cs _ _ _ _ _ _ h; omega
  | succ n ih =>
    intro k p σ ns ds cs h hr hn hel hc hp hlt
    have g1 := skp_ge (f := isBl) (b := b) (p := p)
    have g2 := skp_le (f := isBl) hp
    have hl := hr.len
    have h1 := h.mv (q := skp isBl b p)
    have ag1 : agM σ (uI σ 1315 32 (Int32.ofNat (skp isBl b p))) := agM.refl.uF (Or.inr (Or.inr (Or.inl rfl)))
    rw [show k + (n + 1) = (k + n) + 1 from rfl, f162_75.eq_2, ltE, h.2.1, f152_e h.1 hb (by omega), cIo, f153_e, cIo, f151_e (by omega) hb h.1 h.2.1 hp, cVo, ltE, h1.2.1, f152_e h1.1 hb (by omega), cIo]
    generalize uI σ 1315 32 (Int32.ofNat (skp isBl b p)) = σ1 at h1 ag1 ⊢
    by_cases hs : p < skp isBl b p ∧ isLet (b.getD (skp isBl b p) 0) = true
    · have n62 : ¬ b.getD (skp isBl b p) 0 = 62 := fun hh => by
        have k1 := hs.2
        rw [hh] at k1
        exact absurd k1 (by decide)
      have n47 : ¬ b.getD (skp isBl b p) 0 = 47 := fun hh => by
        have k1 := hs.2
        rw [hh] at k1
        exact absurd k1 (by decide)
      have hbl : isBl (b.getD p 0) = true := by
        rcases skp_cases (b := b) (p := p) isBl_0 with ⟨k1, _, _⟩ | ⟨_, k2⟩
        · exact k1
        · omega
      rw [sHe_s hs, if_neg n62, ltE, h1.2.1, f152_e h1.1 hb (by omega), cIo, if_neg n47, hbl, if_neg (show ¬ b2i true = 0 by decide), ltE, h1.2.1, f152_e h1.1 hb (by omega), cIo, f156_e, cIo, hs.2, if_neg (show ¬ b2i true = 0 by decide), oN_p1]
      have cg : sAt b R ns.length (skp isBl b p) (ns.drop (pre.length + (el + 1))) = sAt b (30 - th) ds.length (skp isBl b p) (ns.drop (pre.length + (el + 1))) := sAt_cg (by omega)
      rw [cg]
      have m := f165_e (F := F) (lv := lv + 1) (th := th) (prev := ns.drop (pre.length + (el + 1))) (by omega) hb hO h1 (by omega) ht (by omega) hel (fun i x hx => (hr.2 x (List.mem_of_getElem? hx)).1) hs.2 hr.dp
      cases hq : sAt b (30 - th) ds.length (skp isBl b p) (ns.drop (pre.length + (el + 1))) with
      | inl c =>
        have hc10 := sAt_c hq
        rw [hq] at m
        obtain ⟨τ, m1, m2, m3⟩ := m
        dsimp only
        rw [m1, cIo, if_pos rfl]
        exact ⟨τ, rfl, ag1.trans m2, by rw [m3]; exact wr_e hc10⟩
      | inr x =>
        have ok := sAt_ok hO hs.2 hq
        have g4 := nmE_ge (b := b) (p := skp isBl b p)
        have g3 := nmE_le (b := b) (p := skp isBl b p) g2
        rw [hq] at m
        obtain ⟨τ, m1, m2, m3⟩ := m
        dsimp only
        rw [m1, cIo, if_neg (show ¬ (1 : Int32) = 0 by decide)]
        have hr2 : rel b base pre (ns ++ [(2, lv + 1 + base, x.2.1, x.2.2)]) (ds ++ [(2, lv + 1, skp isBl b p, nmE b (skp isBl b p) - skp isBl b p, cs.length, x.2.2.length)]) (cs ++ x.2.2) := by
          have r1 := hr.snoc (es := x.2.2) (x := (2, lv + 1, skp isBl b p, nmE b (skp isBl b p) - skp isBl b p, cs.length, x.2.2.length)) ⟨by dsimp only; omega, by rw [List.length_append]; exact Nat.le_refl _⟩
          have e : toNd b (cs ++ x.2.2) base (2, lv + 1, skp isBl b p, nmE b (skp isBl b p) - skp isBl b p, cs.length, x.2.2.length) = (2, lv + 1 + base, x.2.1, x.2.2) := by
            unfold toNd
            dsimp only
            rw [stre_new, ok.2.2.2.2]
          rw [e] at r1
          exact r1
        have i1 := ih k x.1 τ (ns ++ [(2, lv + 1 + base, x.2.1, x.2.2)]) _ (cs ++ x.2.2) m3 hr2 (by rw [List.length_append, List.length_cons, List.length_nil]; omega) (by rw [List.length_append]; omega) (by rw [List.length_append]; omega) ok.2.2.2.1 (by omega)
        cases hq2 : sHe b R (lv + 1 + base) (pre.length + (el + 1)) n x.1 (ns ++ [(2, lv + 1 + base, x.2.1, x.2.2)]) with
        | inl c =>
          rw [hq2] at i1
          obtain ⟨υ, j1, j2, j3⟩ := i1
          exact ⟨υ, j1, (ag1.trans m2).trans j2, j3⟩
        | inr y =>
          rw [hq2] at i1
          obtain ⟨υ, ds', cs', j1, j2, j3, j4, j5, j6, j7, j8⟩ := i1
          rw [List.append_assoc] at j3 j4
          exact ⟨υ, _, cs', j1, (ag1.trans m2).trans j2, j3, j4, j5, j6, by omega, j8⟩
    · rw [sHe_z hs]
      unfold hdE
      by_cases h62 : b.getD (skp isBl b p) 0 = 62
      · have hl2 : skp isBl b p < b.length := nz_lt (by rw [h62]; decide)
        rw [if_pos h62, if_pos h62, ltE, h1.2.1, oN_p1, ltE]
        have h2 := h1.mv (q := skp isBl b p + 1)
        refine ⟨_, [], cs, rfl, ag1.uF (Or.inr (Or.inr (Or.inl rfl))), ?_, ?_, hn, by dsimp only; omega, by dsimp only; omega, hl2⟩
        · rw [List.append_nil]
          exact h2
        · rw [List.append_nil]
          exact hr
      · rw [if_neg h62, if_neg h62, ltE, h1.2.1, f152_e h1.1 hb (by omega), cIo]
        by_cases h47 : b.getD (skp isBl b p) 0 = 47
        · have hl2 : skp isBl b p < b.length := nz_lt (by rw [h47]; decide)
          have h2 := h1.mv (q := skp isBl b p + 1)
          have ag2 := ag1.uF (j := 32) (x := Int32.ofNat (skp isBl b p + 1)) (Or.inr (Or.inr (Or.inl rfl)))
          rw [if_pos h47, if_pos h47, ltE, h1.2.1, oN_p1, ltE, f159_e hb h2 (by omega)]
          by_cases h62b : b.getD (skp isBl b p + 1) 0 = 62
          · have hl3 : skp isBl b p + 1 < b.length := nz_lt (by rw [h62b]; decide)
            rw [if_pos h62b, if_pos h62b, cIo, if_neg (show ¬ (1 : Int32) = 0 by decide)]
            have h3 := h2.mv (q := skp isBl b p + 2)
            refine ⟨_, [], cs, rfl, ag2.uF (Or.inr (Or.inr (Or.inl rfl))), ?_, ?_, hn, by dsimp only; omega, by dsimp only; omega, hl3⟩
            · rw [List.append_nil]
              exact h3
            · rw [List.append_nil]
              exact hr
          · rw [if_neg h62b, if_neg h62b, cIo, if_pos rfl]
            exact ⟨_, rfl, ag2.uF (Or.inr (Or.inr (Or.inr rfl))), u_eq⟩
        · rw [if_neg h47, if_neg h47]
          by_cases hbl : isBl (b.getD p 0) = true
          · have hps : p < skp isBl b p := by
              rcases skp_cases (b := b) (p := p) isBl_0 with ⟨_, _, k3⟩ | ⟨k1, _⟩
              · have k4 := skp_ge (f := isBl) (b := b) (p := p + 1)
                omega
              · rw [hbl] at k1
                cases k1
            have hlf : isLet (b.getD (skp isBl b p) 0) = false := by
              rw [← Bool.not_eq_true]
              exact fun hh => hs ⟨hps, hh⟩
            rw [hbl, if_neg (show ¬ b2i true = 0 by decide), ltE, h1.2.1, f152_e h1.1 hb (by omega), cIo, f156_e, cIo, hlf, if_pos b2i_f, f154_e h1.2.2.1, cIo]
            exact ⟨_, rfl, ag1.uF (Or.inr (Or.inr (Or.inr rfl))), u_eq⟩
          · rw [Bool.not_eq_true] at hbl
            rw [hbl, if_pos b2i_f, f154_e h1.2.2.1, cIo]
            exact ⟨_, rfl, ag1.uF (Or.inr (Or.inr (Or.inr rfl))), u_eq⟩
end MAS
