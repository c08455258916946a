/-! THE REFERENCE'S ELEMENT: its loops follow the machine -/
def agE (σ τ : St) : Prop := (∀ a, a < 1315 ∨ (1315 < a ∧ a < 1333) ∨ 1340 < a → τ.1 a = σ.1 a) ∧ (∀ j, j < 22 ∨ (23 < j ∧ j < 32) ∨ 33 < j → τ.1 1315 j = σ.1 1315 j) ∧ τ.2 = σ.2
theorem agE.trans {σ τ υ : St} (h : agE σ τ) (g : agE τ υ) : agE σ υ := ⟨fun a ha => (g.1 a ha).trans (h.1 a ha), fun j hj => (g.2.1 j hj).trans (h.2.1 j hj), g.2.2.trans h.2.2⟩
theorem agM.e {σ τ : St} (h : agM σ τ) : agE σ τ := ⟨fun a ha => h.1 a (by omega), h.2.1, h.2.2⟩
theorem agE.uO {σ τ : St} {j : Nat} {x : Int32} (h : agE σ τ) : agE σ (uI τ 1340 j x) := ⟨fun c hc => by rw [u_ne (by omega)]; exact h.1 c hc, fun i hi => by rw [u_ne (by omega)]; exact h.2.1 i hi, h.2.2⟩
/-- the open elements -/
def opn (σ : St) (b : List Int32) (ds : List Md) : List (List Int32) → Prop
  | [] => True
  | nm :: st => (∃ (i : Nat) (x : Md), σ.1 1340 st.length = Int32.ofNat i ∧ ds[i]? = some x ∧ stre b x.2.2.1 x.2.2.2.1 = nm) ∧ opn σ b ds st
theorem opn.mono {σ τ : St} {b : List Int32} {ds ds' : List Md} (ht : τ.1 1340 = σ.1 1340) : ∀ st, opn σ b ds st → opn τ b (ds ++ ds') st
  | [], _ => trivial
  | nm :: st, h => by
    obtain ⟨⟨i, x, h1, h2, h3⟩, h4⟩ := h
    have hi : i < ds.length := (List.getElem?_eq_some_iff.mp h2).1
    exact ⟨⟨i, x, by rw [ht]; exact h1, by rw [List.getElem?_append_left hi]; exact h2, h3⟩, opn.mono ht st h4⟩
theorem opn.up {σ : St} {b : List Int32} {ds : List Md} {n : Nat} {v : Int32} : ∀ st, st.length ≤ n → opn σ b ds st → opn (uI σ 1340 n v) b ds st
  | [], _, _ => trivial
  | nm :: st, hl, h => by
    obtain ⟨⟨i, x, h1, h2, h3⟩, h4⟩ := h
    rw [List.length_cons] at hl
    exact ⟨⟨i, x, by rw [u_at, if_neg (by omega)]; exact h1, h2, h3⟩, opn.up st (by omega) h4⟩
theorem mRd.op {σ : St} {b : List Int32} {p : Nat} {ds : List Md} {cs : List Int32} {k : Nat} {v : Int32} (h : mRd σ b p ds cs) : mRd (uI σ 1340 k v) b p ds cs := by
  obtain ⟨h1, h2, h3, h4, ⟨h5, h6⟩, h7⟩ := h
  refine ⟨⟨?_, fun j hj => ?_⟩, ?_, ?_, ?_, ⟨?_, fun j hj => ?_⟩, fun i x hx => ?_⟩
  · rw [u_ne (by decide)]
    exact h1.1
  · rw [u_ne (by decide)]
    exact h1.2 j hj
  · rw [u_ne (by decide)]
    exact h2
  · rw [u_ne (by decide)]
    exact h3
  · rw [u_ne (by decide)]
    exact h4
  · rw [u_ne (by decide)]
    exact h5
  · rw [u_ne (by decide)]
    exact h6 j hj
  · rw [u_ne (by decide), u_ne (by decide), u_ne (by decide), u_ne (by decide), u_ne (by decide), u_ne (by decide)]
    exact h7 i x hx
theorem f154_g {F : Nat} {σ : St} {x : Int32} (h : ¬ σ.1 1315 33 = 0) : f154 F x σ = oI 0 (uI σ 1315 33 (σ.1 1315 33)) := by
  unfold f154
  rw [ltE, if_neg h, ltE, ltE]
theorem wr_nz (c : Nat) : ¬ wr c = 0 := by
  unfold wr
  split
  · decide
  · split <;> decide
theorem rel.tx {b cs es : List Int32} {base k lv : Nat} {pre ns : List Nd} {ds : List Md} (h : rel b base pre ns ds cs) : rel b base pre (ns ++ [(k, lv + base, [], es)]) (ds ++ [(k, lv, 0, 0, cs.length, es.length)]) (cs ++ es) := by
  have r1 := h.snoc (es := es) (x := (k, lv, 0, 0, cs.length, es.length)) ⟨Nat.zero_le _, by rw [List.length_append]; exact Nat.le_refl _⟩
  have e : toNd b (cs ++ es) base (k, lv, 0, 0, cs.length, es.length) = (k, lv + base, [], es) := by
    unfold toNd
    dsimp only
    rw [stre_new, stre_0]
  rw [e] at r1
  exact r1
def mOut (b : List Int32) (l0 : Nat) (pre : List Nd) (ds : List Md) (σ : St) (p : Nat) (r : Rr) (f : Rs) : Prop := match r with
  | .inl c => ∃ τ, f = oI 0 τ ∧ agE σ τ ∧ τ.1 1315 33 = wr c
  | .inr x => ∃ τ ds' cs', f = oI 1 τ ∧ agE σ τ ∧ mRd τ b x.1 (ds ++ ds') cs' ∧ rel b l0 pre x.2 (ds ++ ds') cs' ∧ x.2.length ≤ 30 ∧ cs'.length ≤ x.1 ∧ p ≤ x.1 ∧ x.1 ≤ b.length
theorem mOut.step {b : List Int32} {l0 p q : Nat} {pre : List Nd} {ds d1 : List Md} {σ τ : St} {r : Rr} {f : Rs} (ha : agE σ τ) (hp : p ≤ q) (h : mOut b l0 pre (ds ++ d1) τ q r f) : mOut b l0 pre ds σ p r f := by
  unfold mOut at h ⊢
  cases r with
  | inl c =>
    obtain ⟨υ, h1, h2, h3⟩ := h
    exact ⟨υ, h1, ha.trans h2, h3⟩
  | inr x =>
    obtain ⟨υ, ds', cs', h1, h2, h3, h4, h5, h6, h7, h8⟩ := h
    rw [List.append_assoc] at h3 h4
    exact ⟨υ, _, cs', h1, ha.trans h2, h3, h4, h5, h6, by omega, h8⟩
theorem sHd_8 {b : List Int32} {R lv p : Nat} {ns : List Nd} {x : Nat × List Nd × Bool} (h : sHd b R lv p ns = .inr x) : lv ≤ 8 := by
  unfold sHd at h
  split at h
  · split at h
    · cases h
    · omega
  · cases h
def mlOk (F R l0 th : Nat) (b : List Int32) (pre : List Nd) (n : Nat) : Prop := ∀ (A B p : Nat) (σ : St) (ns : List Nd) (ds : List Md) (cs : List Int32) (st : List (List Int32)),
  mRd σ b p ds cs → rel b l0 pre ns ds cs → opn σ b ds st → ns.length ≤ 30 → cs.length ≤ p → p ≤ b.length → b.length - p < n → st ≠ [] → st.length ≤ 9 → n + 1 ≤ A → n + 2 ≤ B →
  mOut b l0 pre ds σ p (run b R l0 n st p ns) (f161_72 F (f161_6 F A) B 0 (Int32.ofNat l0) (Int32.ofNat th) (Int32.ofNat st.length) 0 1 σ)
section MEL
variable {F R l0 th : Nat} {b : List Int32} {pre : List Nd}
theorem f161_6_z {A : Nat} {x1 x2 x3 x4 : Int32} {σ : St} : f161_6 F (A + 1) x1 x2 x3 x4 0 σ = oI 1 σ := by
  rw [f161_6.eq_2, if_pos rfl]
theorem f161_72_z {B : Nat} {k6 : Int32 → Int32 → Int32 → Int32 → Int32 → St → Rs} {x1 x2 x3 x4 x5 : Int32} {σ : St} : f161_72 F k6 (B + 1) x1 x2 x3 x4 x5 0 σ = k6 x1 x2 x3 x4 x5 σ := by
  rw [f161_72.eq_2, if_pos rfl]
theorem f161_6_e {n A p : Nat} {σ : St} {ns : List Nd} {ds : List Md} {cs : List Int32} {st : List (List Int32)} (hF : 5000 ≤ F) (hb : b.length ≤ 120) (hO : okB b) (ht : th ≤ 30) (hR : R = 30 - th + pre.length) (hR3 : R ≤ 30) (hl0 : 1 ≤ l0) (hl1 : l0 ≤ 100) (hn1 : n ≤ 1000) (ml : mlOk F R l0 th b pre n) (h : mRd σ b p ds cs) (hr : rel b l0 pre ns ds cs) (ho : opn σ b ds st) (hn : ns.length ≤ 30) (hc : cs.length ≤ p) (hlt : b.length - p ≤ n) (hst : st.length ≤ 100) (hA : n + 2 ≤ A) (hlet : isLet (b.getD (p + 1) 0) = true) :
    mOut b l0 pre ds σ p (sEl b R l0 (run b R l0 n) st p ns) (f161_6 F A 0 (Int32.ofNat l0) (Int32.ofNat th) (Int32.ofNat st.length) 1 σ) := by
  have hp1 := let_lt hlet
  obtain ⟨A0, rfl⟩ : ∃ A0, A = A0 + 1 := ⟨A - 1, by omega⟩
  rw [f161_6.eq_2, if_neg (show ¬ (1 : Int32) = 0 by decide), ltE, h.2.2.2.1, Int32.zero_add, oN_ad, Nat.add_comm l0 st.length]
  have m := f162_e (F := F) (lv := st.length) (base := l0) hF hb hO ht hR hR3 h hr hn hc (by omega) hlet
  unfold sEl
  cases hq : sHd b R (st.length + l0) p ns with
  | inl c =>
    rw [hq] at m
    obtain ⟨τ, m1, m2, m3⟩ := m
    rw [m1, cIo, if_pos rfl]
    exact ⟨τ, rfl, m2.e, m3⟩
  | inr x =>
    have h8 := sHd_8 hq
    rw [hq] at m
    obtain ⟨τ, ds', cs', m1, m2, m3, m4, m5, m6, m7, m8⟩ := m
    have e40 : τ.1 1340 = σ.1 1340 := m2.1 1340 (by omega)
    have o1 := opn.mono (ds' := (1, st.length, p + 1, nmE b (p + 1) - (p + 1), cs.length, 0) :: ds') e40 st ho
    dsimp only
    by_cases hx : x.2.2 = true
    · rw [if_pos hx] at m1
      rw [if_pos hx, m1, cIo, if_neg (show ¬ (1 : Int32) = 0 by decide), if_pos rfl, if_pos (oN_rg (by omega) (by decide)), oN_n (by omega), ltE, oN_p1]
      unfold f161_57 f161_67
      rw [if_pos (show (0 : Int32) < Int32.ofNat (st.length + 1) from (oN_lt (p := 0) (by decide) (by omega)).mpr (by omega))]
      have o2 : opn (uI τ 1340 st.length (Int32.ofNat ds.length)) b (ds ++ (1, st.length, p + 1, nmE b (p + 1) - (p + 1), cs.length, 0) :: ds') (hnm b p :: st) := ⟨⟨ds.length, (1, st.length, p + 1, nmE b (p + 1) - (p + 1), cs.length, 0), u_eq, by rw [List.getElem?_append_right (Nat.le_refl _), Nat.sub_self]; rfl, rfl⟩, opn.up st (Nat.le_refl _) o1⟩
      have i1 := ml A0 F x.1 _ x.2.1 _ cs' (hnm b p :: st) m3.op m4 o2 m5 m6 m8 (by omega) (List.cons_ne_nil _ _) (by rw [List.length_cons]; omega) (by omega) (by omega)
      exact mOut.step m2.e.uO (by omega) i1
    · rw [if_neg hx] at m1
      rw [if_neg hx, m1, cIo, if_neg (show ¬ (2 : Int32) = 0 by decide), if_neg (show ¬ (2 : Int32) = 1 by decide)]
      unfold f161_57 f161_67
      cases st with
      | nil =>
        obtain ⟨F0, hF0⟩ : ∃ F0, F = F0 + 1 := ⟨F - 1, by omega⟩
        obtain ⟨A1, rfl⟩ : ∃ A1, A0 = A1 + 1 := ⟨A0 - 1, by omega⟩
        obtain ⟨n0, rfl⟩ : ∃ n0, n = n0 + 1 := ⟨n - 1, by omega⟩
        have z1 : ∀ (G : Nat) (k6 : Int32 → Int32 → Int32 → Int32 → Int32 → St → Rs) (x1 x2 x3 x4 x5 : Int32), G = F0 + 1 → f161_72 F k6 G x1 x2 x3 x4 x5 0 τ = k6 x1 x2 x3 x4 x5 τ := fun G k6 x1 x2 x3 x4 x5 hG => by rw [hG]; exact f161_72_z
        rw [if_neg (show ¬ (0 : Int32) < Int32.ofNat ([] : List (List Int32)).length by decide), z1 F _ _ _ _ _ _ hF0, f161_6_z, run_nil]
        exact ⟨τ, _, cs', rfl, m2.e, m3, m4, m5, m6, by dsimp only; omega, m8⟩
      | cons nm st =>
        rw [if_pos (show (0 : Int32) < Int32.ofNat (nm :: st).length from (oN_lt (p := 0) (by decide) (by omega)).mpr (by rw [List.length_cons]; omega))]
        have i1 := ml A0 F x.1 τ x.2.1 _ cs' (nm :: st) m3 m4 (o1) m5 m6 m8 (by omega) (List.cons_ne_nil _ _) (by omega) (by omega) (by omega)
        exact mOut.step m2.e (by omega) i1
theorem oN_m1 {n : Nat} : Int32.ofNat (n + 1) + Int32.ofInt (-1) = Int32.ofNat n := by
  rw [← oN_p1, Int32.add_assoc, show (1 : Int32) + Int32.ofInt (-1) = 0 by decide, Int32.add_zero]
theorem oN_s1 {n : Nat} : Int32.ofNat (n + 1) - 1 = Int32.ofNat n := by
  rw [show (1 : Int32) = Int32.ofNat 1 from rfl, oN_sb (by omega)]
  rfl
theorem ml_ok (hF : 5000 ≤ F) (hb : b.length ≤ 120) (hO : okB b) (ht : th ≤ 30) (hR : R = 30 - th + pre.length) (hR3 : R ≤ 30) (hl0 : 1 ≤ l0) (hl1 : l0 ≤ 100) : ∀ n, n ≤ 1000 → mlOk F R l0 th b pre n := by
  intro n
  induction n with
  | zero => intro _ A B p σ ns ds cs st _ _ _ _ _ _ hlt; omega
  | succ n ih =>
    intro hn1 A B p σ ns ds cs st h hr ho hn hc hp hlt hne hsl hA hB
    have ihn := ih (by omega)
    have hl := hr.len
    have hcg : ns.length < R ↔ ds.length < 30 - th := by omega
    obtain ⟨B0, rfl⟩ : ∃ B0, B = B0 + 1 := ⟨B - 1, by omega⟩
    cases st with
    | nil => exact absurd rfl hne
    | cons nm st =>
      rw [f161_72.eq_2, if_neg (show ¬ (1 : Int32) = 0 by decide), ltE, h.2.1, f152_e h.1 hb (by omega), cIo]
      unfold f161_163 f161_222
      by_cases h60 : b.getD p 0 = 60
      · have hpl : p < b.length := nz_lt (by rw [h60]; decide)
        rw [if_pos h60, ltE, h.2.1, oN_p1, f152_e h.1 hb (by omega), cIo]
        by_cases h47 : b.getD (p + 1) 0 = 47
        · rw [if_pos h47, run_cl ⟨h60, h47⟩]
          obtain ⟨⟨i, x, o1, o2, o3⟩, o4⟩ := ho
          rw [List.length_cons] at hsl
          have m := f171_e (F := F) hF hb h (by omega) o2 (hr.2 x (List.mem_of_getElem? o2)).1 h47
          rw [o3] at m
          rw [List.length_cons, oN_s1, if_pos (oN_rg (by omega) (by decide)), oN_n (by omega), ltE, o1]
          cases hq : sCl b p nm with
          | none =>
            rw [hq] at m
            obtain ⟨τ, m1, m2, m3⟩ := m
            rw [m1, cIo, if_pos rfl]
            exact ⟨τ, rfl, m2.e, m3⟩
          | some q =>
            have ok := sCl_ok hq
            rw [hq] at m
            obtain ⟨τ, m1, m2, m3⟩ := m
            rw [m1, cIo, if_neg (show ¬ (1 : Int32) = 0 by decide), oN_m1]
            dsimp only
            cases st with
            | nil =>
              obtain ⟨B1, rfl⟩ : ∃ B1, B0 = B1 + 1 := ⟨B0 - 1, by omega⟩
              obtain ⟨A1, rfl⟩ : ∃ A1, A = A1 + 1 := ⟨A - 1, by omega⟩
              obtain ⟨n0, rfl⟩ : ∃ n0, n = n0 + 1 := ⟨n - 1, by omega⟩
              rw [if_neg (show ¬ (0 : Int32) < Int32.ofNat ([] : List (List Int32)).length by decide), f161_72_z, f161_6_z, run_nil]
              exact ⟨τ, [], cs, rfl, m2.e, by rw [List.append_nil]; exact m3, by rw [List.append_nil]; exact hr, hn, by dsimp only; omega, by dsimp only; omega, ok.2⟩
            | cons nm2 st2 =>
              rw [if_pos (show (0 : Int32) < Int32.ofNat (nm2 :: st2).length from (oN_lt (p := 0) (by decide) (by omega)).mpr (by rw [List.length_cons]; omega))]
              have o5 := opn.mono (τ := τ) (ds' := []) (m2.1 1340 (by omega)) _ o4
              rw [List.append_nil] at o5
              have i1 := ihn A B0 q τ ns ds cs (nm2 :: st2) m3 hr o5 hn (by omega) ok.2 (by omega) (List.cons_ne_nil _ _) (by omega) (by omega) (by omega)
              exact mOut.step (d1 := []) (q := q) m2.e (by omega) (by rw [List.append_nil]; exact i1)
        · rw [if_neg h47, run_pt (fun hh => h47 hh.2)]
          unfold sPa
          have e155 : f155 F 1 σ = _ := f155_e (el := true) hb h (by omega)
          rw [if_pos h60]
          by_cases hu : uns b p
          · have e2 : f155 F 1 σ = oI 2 σ := by
              rw [e155, show odC b p true = 13 from if_pos hu]
              rfl
            rw [if_pos hu, e2, cIo, if_neg (show ¬ (2 : Int32) = 0 by decide), f154_e h.2.2.1, cIo, if_pos (Or.inl rfl)]
            exact ⟨_, rfl, (agM.refl.uF (Or.inr (Or.inr (Or.inr rfl)))).e, u_eq⟩
          · rw [if_neg hu]
            by_cases h33 : b.getD (p + 1) 0 = 33
            · rw [if_pos h33]
              by_cases h45 : b.getD (p + 2) 0 = 45 ∧ b.getD (p + 3) 0 = 45
              · have e2 : f155 F 1 σ = oI 0 σ := by
                  rw [e155, show odC b p true = 0 by unfold odC; rw [if_neg hu, if_pos h33, if_pos h45]]
                  rfl
                rw [e2, cIo, if_pos rfl, ltE, h.2.1, oN_p1, f152_e h.1 hb (by omega), cIo, if_pos h33, Int32.zero_add]
                have m := f157_e (F := F) (lv := (nm :: st).length) (th := th) (by omega) hb h (by omega) ht hc h45.1 h45.2
                rw [← sCm_cg hcg] at m
                cases hq : sCm b R ns.length p with
                | inl c =>
                  have hcc := sCm_c hq
                  rw [hq] at m
                  obtain ⟨τ, m1, m2, m3⟩ := m
                  rw [m1, cIo, if_pos rfl]
                  exact ⟨τ, rfl, m2.e, by rw [m3]; exact wr_e hcc⟩
                | inr x =>
                  have ok := sCm_ok hq
                  rw [hq] at m
                  obtain ⟨τ, m1, m2, m3⟩ := m
                  rw [m1, cIo, if_neg (show ¬ (1 : Int32) = 0 by decide)]
                  dsimp only
                  have i1 := ihn A B0 x.1 τ _ _ _ (nm :: st) m3 (hr.tx (k := 4) (lv := (nm :: st).length) (es := x.2)) (opn.mono (m2.1 1340 (by omega)) _ ho) (by rw [List.length_append, List.length_cons, List.length_nil]; omega) (by rw [List.length_append]; omega) ok.2.2.2.1 (by omega) (List.cons_ne_nil _ _) hsl (by omega) (by omega)
                  exact mOut.step m2.e (by omega) i1
              · have e2 : f155 F 1 σ = oI 1 σ := by
                  rw [e155, show odC b p true = 10 by unfold odC; rw [if_neg hu, if_pos h33, if_neg h45]]
                  rfl
                rw [e2, cIo, if_neg (show ¬ (1 : Int32) = 0 by decide), f154_e h.2.2.1, cIo, if_pos (Or.inl rfl)]
                unfold sCm
                rw [if_neg h45]
                exact ⟨_, rfl, (agM.refl.uF (Or.inr (Or.inr (Or.inr rfl)))).e, u_eq⟩
            · rw [if_neg h33]
              by_cases hlet : isLet (b.getD (p + 1) 0) = true
              · have e2 : f155 F 1 σ = oI 0 σ := by
                  rw [e155, show odC b p true = 0 by unfold odC; rw [if_neg hu, if_neg h33, if_pos ⟨rfl, hlet⟩]]
                  rfl
                obtain ⟨B1, rfl⟩ : ∃ B1, B0 = B1 + 1 := ⟨B0 - 1, by omega⟩
                rw [e2, cIo, if_pos rfl, ltE, h.2.1, oN_p1, f152_e h.1 hb (by omega), cIo, if_neg h33, f161_72_z]
                exact f161_6_e hF hb hO ht hR hR3 hl0 hl1 (by omega) ihn h hr ho hn hc (by omega) (by omega) (by omega) hlet
              · have e2 : f155 F 1 σ = oI 1 σ := by
                  rw [e155, show odC b p true = 10 by unfold odC; rw [if_neg hu, if_neg h33, if_neg (fun hh => hlet hh.2)]]
                  rfl
                rw [e2, cIo, if_neg (show ¬ (1 : Int32) = 0 by decide), f154_e h.2.2.1, cIo, if_pos (Or.inl rfl)]
                unfold sEl sHd
                rw [if_neg hlet]
                exact ⟨_, rfl, (agM.refl.uF (Or.inr (Or.inr (Or.inr rfl)))).e, u_eq⟩
      · rw [if_neg h60, run_pt (fun hh => h60 hh.1)]
        unfold sPa
        rw [if_neg h60]
        by_cases h0 : b.getD p 0 = 0
        · have hpl : ¬ p < b.length := fun hh => okB_nz hO hh h0
          rw [if_pos h0, f154_e h.2.2.1, cIo, if_pos (Or.inl rfl)]
          unfold sTx
          rw [if_pos hpl]
          exact ⟨_, rfl, (agM.refl.uF (Or.inr (Or.inr (Or.inr rfl)))).e, u_eq⟩
        · have hpl : p < b.length := nz_lt h0
          rw [if_neg h0, Int32.zero_add]
          have m := f170_e (F := F) (lv := (nm :: st).length) (th := th) (by omega) hb hO h (by omega) ht hc hpl
          rw [← sTx_cg hcg] at m
          cases hq : sTx b R ns.length p with
          | inl c =>
            have hcc := sTx_c hq
            rw [hq] at m
            obtain ⟨τ, m1, m2, m3⟩ := m
            rw [wr_e hcc] at m3
            rw [m1, cIo, if_pos rfl, f154_g (by rw [m3]; exact wr_nz c), cIo, if_pos (Or.inl rfl)]
            exact ⟨_, rfl, (m2.uF (Or.inr (Or.inr (Or.inr rfl)))).e, by rw [u_eq]; exact m3⟩
          | inr x =>
            have ok := sTx_ok hO hq
            have ok2 := ok.2.2.2 h60
            rw [hq] at m
            obtain ⟨τ, m1, m2, m3⟩ := m
            rw [m1, cIo, if_neg (show ¬ (1 : Int32) = 0 by decide)]
            dsimp only
            have i1 := ihn A B0 x.1 τ _ _ _ (nm :: st) m3 (hr.tx (k := 3) (lv := (nm :: st).length) (es := x.2)) (opn.mono (m2.1 1340 (by omega)) _ ho) (by rw [List.length_append, List.length_cons, List.length_nil]; omega) (by rw [List.length_append]; omega) ok.2.2.1 (by omega) (List.cons_ne_nil _ _) hsl (by omega) (by omega)
            exact mOut.step m2.e (by omega) i1
end MEL
