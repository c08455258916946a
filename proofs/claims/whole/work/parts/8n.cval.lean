/-! VALUES IN THE CLASS'S PARTS -/
theorem cRo {a : Nat} {σ : St} {kk : Nat → St → Rs} : cR (some (.inl (some (.ref a)), σ)) kk = kk a σ := rfl
theorem cRt {c : Nat} {σ : St} {kk : Nat → St → Rs} : cR (oT c σ) kk = oT c σ := rfl
theorem cJt {c : Nat} {σ : St} {kk : Int64 → St → Rs} : cJ (oT c σ) kk = oT c σ := rfl
theorem mRr {a : Nat} {k1 : Nat → Rs} {k2 : Rs} : mR (.ref a) k1 k2 = k1 a := rfl
theorem mRn {k1 : Nat → Rs} {k2 : Rs} : mR .null k1 k2 = k2 := rfl
theorem eC_0 {o : Option Int} (h : nOk o) : eC o = 0 ↔ o = some 0 := by
  cases o with
  | none => exact ⟨fun e => absurd e (by decide), fun e => by cases e⟩
  | some v =>
    have h1 := h v rfl
    have e0 : (0 : Int64) = Int64.ofInt 0 := rfl
    show Int64.ofInt v = 0 ↔ _
    rw [e0, i64_eq h1 (by omega)]
    exact ⟨fun e => by rw [e], fun e => by injection e⟩
def valC (σ : St) (b : List Int32) (A : Nat) (v : Vl) : Prop := ∃ s, s ≤ 11 ∧ σ.1 A 0 = Int32.ofNat s ∧ ((s ≤ 4 ∧ v.1 = 0 ∧ σ.2.1 A 8 = eC v.2.1) ∨ (s = 5 ∧ v.1 = 1 ∧ ∃ f e, f ≤ e ∧ e ≤ b.length ∧ σ.1 A 10 = Int32.ofNat f ∧ σ.1 A 11 = Int32.ofNat e ∧ v.2.2.2 = stre b f (e - f)) ∨ (s = 6 ∧ v.1 = 3 ∧ σ.1 A 9 = v.2.2.1) ∨ (7 ≤ s ∧ v.1 = 2 ∧ σ.2.1 A 8 = eC v.2.1))
section CVL
variable {F A : Nat} {σ : St} {ns : List Nd} {b : List Int32} {v : Vl}
theorem f36_e (h : valC σ b A v) : f36 F A σ = oI (b2i (decide (v.1 = 3))) σ := by
  obtain ⟨s, h0, h1, h2⟩ := h
  unfold f36
  rw [ltE, h1]
  rcases h2 with ⟨g, e, _⟩ | ⟨g, e, _⟩ | ⟨g, e, _⟩ | ⟨g, e, _⟩
  · rw [if_neg (fun k => by have := (oN_eq (q := 6) (by omega) (by decide)).mp k; omega), e]
    rfl
  · rw [if_neg (fun k => by have := (oN_eq (q := 6) (by omega) (by decide)).mp k; omega), e]
    rfl
  · rw [g, if_pos (by rfl), e]
    rfl
  · rw [if_neg (fun k => by have := (oN_eq (q := 6) (by omega) (by decide)).mp k; omega), e]
    rfl
theorem f38_e (h : valC σ b A v) : f38 F A σ = oI (b2i (decide (v.1 = 2))) σ := by
  obtain ⟨s, h0, h1, h2⟩ := h
  unfold f38
  rw [ltE, h1]
  rcases h2 with ⟨g, e, _⟩ | ⟨g, e, _⟩ | ⟨g, e, _⟩ | ⟨g, e, _⟩
  · rw [if_pos (show Int32.ofNat s < 7 from (oN_lt (q := 7) (by omega) (by decide)).mpr (by omega)), e]
    rfl
  · rw [if_pos (show Int32.ofNat s < 7 from (oN_lt (q := 7) (by omega) (by decide)).mpr (by omega)), e]
    rfl
  · rw [if_pos (show Int32.ofNat s < 7 from (oN_lt (q := 7) (by omega) (by decide)).mpr (by omega)), e]
    rfl
  · rw [if_neg (show ¬ Int32.ofNat s < 7 from fun k => by have := (oN_lt (q := 7) (by omega) (by decide)).mp k; omega), e]
    rfl
theorem f39_e (h : valC σ b A v) : f39 F A σ = oI (b2i (decide (v.1 = 0))) σ := by
  obtain ⟨s, h0, h1, h2⟩ := h
  unfold f39
  rw [ltE, h1]
  rcases h2 with ⟨g, e, _⟩ | ⟨g, e, _⟩ | ⟨g, e, _⟩ | ⟨g, e, _⟩
  · rw [if_neg (show ¬ 4 < Int32.ofNat s from fun k => by have := (oN_lt (p := 4) (by decide) (by omega)).mp k; omega), e]
    rfl
  · rw [if_pos (show 4 < Int32.ofNat s from (oN_lt (p := 4) (by decide) (by omega)).mpr (by omega)), e]
    rfl
  · rw [if_pos (show 4 < Int32.ofNat s from (oN_lt (p := 4) (by decide) (by omega)).mpr (by omega)), e]
    rfl
  · rw [if_pos (show 4 < Int32.ofNat s from (oN_lt (p := 4) (by decide) (by omega)).mpr (by omega)), e]
    rfl
theorem tru_num (hn : nOk v.2.1) (h1 : ¬ v.1 = 3) (h2 : ¬ v.1 = 1) : (if lg_cmp (eC v.2.1) 0 = 0 then oI 0 σ else if lg_cmp (eC v.2.1) 4611686018427387904 = 0 then oI 0 σ else oI 1 σ) = oI (b2i (tru v)) σ := by
  unfold tru
  rw [if_neg h1, if_neg h2]
  by_cases c1 : v.2.1 = some 0
  · rw [if_pos ((lg_eq _ _).mpr ((eC_0 hn).mpr c1)), c1]
    rfl
  · rw [if_neg (fun g => c1 ((eC_0 hn).mp ((lg_eq _ _).mp g))), decide_eq_false c1]
    by_cases c2 : v.2.1 = none
    · rw [if_pos ((lg_eq _ _).mpr ((eC_n hn).mpr c2)), decide_eq_true c2]
      rfl
    · rw [if_neg (fun g => c2 ((eC_n hn).mp ((lg_eq _ _).mp g))), decide_eq_false c2]
      rfl
theorem f37_e (hb : b.length ≤ 120) (h : valC σ b A v) (ho : vOK ns v) : f37 F A σ = oI (b2i (tru v)) σ := by
  have e36 := f36_e (F := F) h
  obtain ⟨s, h0, h1, h2⟩ := h
  unfold f37
  rw [e36, cIo]
  rcases h2 with ⟨g, e, k⟩ | ⟨g, e, f, z, k1, k2, k3, k4, k5⟩ | ⟨g, e, k⟩ | ⟨g, e, k⟩
  · have hn : nOk v.2.1 := by
      rcases ho with ⟨_, q⟩ | ⟨q, _⟩ | ⟨q, _⟩ | ⟨q, _⟩
      · exact q
      · omega
      · omega
      · omega
    rw [decide_eq_false (show ¬ v.1 = 3 by omega), if_pos b2i_f, ltE, h1, if_neg (show ¬ Int32.ofNat s = 5 from fun k => by have := (oN_eq (q := 5) (by omega) (by decide)).mp k; omega), ltE, ltE, k]
    exact tru_num hn (by omega) (by omega)
  · rw [decide_eq_false (show ¬ v.1 = 3 by omega), if_pos b2i_f, ltE, h1, g, if_pos (by rfl), ltE, ltE, k3, k4, ifd]
    unfold tru
    rw [if_neg (by omega), if_pos e, k5, dcl (by omega) (by omega)]
    have hl := stre_len (l := b) (p := f) (n := z - f) (by omega)
    by_cases c : f < z
    · rw [decide_eq_true c, decide_eq_false (fun q => by rw [q] at hl; simp at hl; omega)]
      rfl
    · rw [decide_eq_false c, decide_eq_true (List.eq_nil_of_length_eq_zero (by rw [hl]; omega))]
      rfl
  · rw [decide_eq_true e, if_neg (show ¬ b2i true = 0 by decide), ltE, k]
    unfold tru
    rw [if_pos e, ifdn]
  · have hn : nOk v.2.1 := by
      rcases ho with ⟨q, _⟩ | ⟨q, _⟩ | ⟨_, q⟩ | ⟨q, _⟩
      · omega
      · omega
      · rcases q with q | q <;> rw [q] <;> intro u hu <;> injection hu with hu <;> omega
      · omega
    rw [decide_eq_false (show ¬ v.1 = 3 by omega), if_pos b2i_f, ltE, h1, if_neg (show ¬ Int32.ofNat s = 5 from fun k => by have := (oN_eq (q := 5) (by omega) (by decide)).mp k; omega), ltE, ltE, k]
    exact tru_num hn (by omega) (by omega)
theorem f72_e (hF : 100 ≤ F) (h : cTr σ ns) (hn : ns.length ≤ 30) (x : Int32) : f72 F x σ = oI (match lowS x ns.length 0 with | none => -1 | some p => Int32.ofNat p) σ := by
  have key : ∀ (m k j : Nat), j + m = ns.length → f72_2 F (k + m + 1) x (Int32.ofNat j) σ = oI (match lowS x m j with | none => -1 | some p => Int32.ofNat p) σ := by
    intro m
    induction m with
    | zero =>
      intro k j hj
      rw [f72_2.eq_2, ltE, h.1.1, if_neg (fun g => by have := (oN_lt (by omega) (by omega)).mp g; omega)]
      rfl
    | succ m ih =>
      intro k j hj
      rw [show k + (m + 1) + 1 = (k + m + 1) + 1 by omega, f72_2.eq_2, ltE, h.1.1, if_pos ((oN_lt (by omega) (by omega)).mpr (by omega)), f31_e (by omega), cIo, ifb]
      unfold lowS
      by_cases c : bt x j = true
      · rw [if_pos c, if_pos c]
      · rw [if_neg c, if_neg c, oN_p1]
        exact ih k (j + 1) (by omega)
  have := key ns.length (F - ns.length - 1) 0 (by omega)
  rw [show F - ns.length - 1 + ns.length + 1 = F by omega] at this
  exact this
theorem row_v {p : Nat} (h : cTr σ ns) (hs : szOk ns) : isRw (vRw ns p) ∧ rowL σ (vRw ns p) (vLs ns p) ∧ (vLs ns p).length ≤ capR (vRw ns p) ∧ isO (vRw ns p) 5 = true := by
  unfold vRw vLs
  by_cases c : inW ns p
  · rw [if_pos c, if_pos c]
    exact ⟨Or.inr (Or.inr (Or.inl rfl)), h.2.1, hs.2.2, by decide +kernel⟩
  · rw [if_neg c, if_neg c]
    exact ⟨Or.inr (Or.inl rfl), h.2.2.1, hs.2.1, by decide +kernel⟩
theorem f73_s {p : Nat} (hF : 5000 ≤ F) (hq : qOk ns b) (ht : cTr σ ns) (h : valC σ b A v) (hv : v.1 = 3) (hp : p < ns.length) : f73 F A (Int32.ofNat p) σ = oJ (eC (numT (sv ns p))) σ := by
  obtain ⟨hw, hs, ho, hb⟩ := hq
  have hn := hs.1.1
  obtain ⟨r1, r2, r3, r4⟩ := row_v (p := p) ht hs
  obtain ⟨v1, v2, v3⟩ := v_str hw.2.2.1 (hw.k4 hp) hp
  unfold f73
  rw [f36_e h, cIo, decide_eq_true hv, if_neg (show ¬ b2i true = 0 by decide), if_neg (oN_nn (by omega)), f132_e ht hs hp, cRo, if_pos r4, f131_e ht hs hp, cIo, f129_e ht hs hp, cIo, f100_e hF r1 r2 r3 v2 v1, cJo, v3]
theorem f73_m (h : valC σ b A v) (hv : v.1 = 3) : f73 F A (-1) σ = oJ (eC none) σ := by
  unfold f73
  rw [f36_e h, cIo, decide_eq_true hv, if_neg (show ¬ b2i true = 0 by decide), if_pos (by decide)]
  rfl
theorem f73_n {x : Int32} (hF : 5000 ≤ F) (hq : qOk ns b) (hB : bufC σ b) (h : valC σ b A v) (hv : ¬ v.1 = 3) : f73 F A x σ = oJ (eC (nmV ns v)) σ := by
  have e36 := f36_e (F := F) h
  obtain ⟨hw, hs, ho, hb⟩ := hq
  obtain ⟨s, h0, h1, h2⟩ := h
  unfold f73 nmV
  rw [e36, cIo, decide_eq_false hv, if_pos b2i_f, ltE, h1, if_neg hv]
  rcases h2 with ⟨g, e, k⟩ | ⟨g, e, f, z, k1, k2, k3, k4, k5⟩ | ⟨g, e, k⟩ | ⟨g, e, k⟩
  · rw [if_neg (show ¬ Int32.ofNat s = 5 from fun k => by have := (oN_eq (q := 5) (by omega) (by decide)).mp k; omega), ltE, k, if_neg (show ¬ v.1 = 1 by omega)]
  · rw [g, if_pos (by rfl), ltE, ltE, k3, k4, f100_e hF (Or.inl rfl) (rowL_buf.mpr hB) hb k2 k1, cJo, if_pos e, k5]
  · exact absurd e hv
  · rw [if_neg (show ¬ Int32.ofNat s = 5 from fun k => by have := (oN_eq (q := 5) (by omega) (by decide)).mp k; omega), ltE, k, if_neg (show ¬ v.1 = 1 by omega)]
theorem f73_p {p : Nat} (hF : 5000 ≤ F) (hq : qOk ns b) (hB : bufC σ b) (ht : cTr σ ns) (h : valC σ b A v) (hp : p < ns.length) : f73 F A (Int32.ofNat p) σ = oJ (eC (nmV ns (pikV ns v p))) σ := by
  unfold pikV
  by_cases c : v.1 = 3
  · rw [if_pos c]
    exact f73_s hF hq ht h c hp
  · rw [if_neg c]
    exact f73_n hF hq hB h c
/-- the number of a value, as total takes it -/
theorem f73_f (hF : 5000 ≤ F) (hq : qOk ns b) (hB : bufC σ b) (ht : cTr σ ns) (h : valC σ b A v) : cI (f72 F (σ.1 A 9) σ) (fun c7 σ6 => f73 F A c7 σ6) = oJ (eC (nmV ns v)) σ := by
  have hn := hq.2.1.1.1
  rw [f72_e (by omega) ht hn, cIo]
  by_cases c : v.1 = 3
  · have hA : σ.1 A 9 = v.2.2.1 := by
      obtain ⟨s, h0, h1, h2⟩ := h
      rcases h2 with ⟨g, e, k⟩ | ⟨g, e, k⟩ | ⟨g, e, k⟩ | ⟨g, e, k⟩
      · omega
      · omega
      · exact k
      · omega
    rw [hA]
    unfold nmV
    rw [if_neg (by omega), if_pos c]
    cases hl : lowS v.2.2.1 ns.length 0 with
    | none => exact f73_m h c
    | some p =>
      have := lowS_lt _ _ hl
      exact f73_s hF hq ht h c (by omega)
  · exact f73_n hF hq hB h c
theorem f77_145_e {r r2 f e f2 e2 : Nat} {L L2 : List Int32} (hF : 5000 ≤ F) (h1 : isRw r ∧ rowL σ r L ∧ L.length ≤ capR r) (h2 : isRw r2 ∧ rowL σ r2 L2 ∧ L2.length ≤ capR r2) (hf : f ≤ e) (he : e ≤ L.length) (hf2 : f2 ≤ e2) (he2 : e2 ≤ L2.length) : f77_145 F r (Int32.ofNat f) (Int32.ofNat e) r2 (Int32.ofNat f2) (Int32.ofNat e2) σ = oI (b2i (decide (stre L f (e - f) = stre L2 f2 (e2 - f2)))) σ := by
  unfold f77_145
  rw [oN_sb hf, oN_sb hf2, f97_e hF h1.1 h2.1 h1.2.1 h2.2.1 h1.2.2 h2.2.2 (by omega) (by omega), cIo, if_pos (b2i_z _), sam_eq (by omega) (by omega)]
theorem f77_70_e {r f e q : Nat} {L : List Int32} (hF : 5000 ≤ F) (hq : qOk ns b) (hB : bufC σ b) (ht : cTr σ ns) (h1 : isRw r ∧ rowL σ r L ∧ L.length ≤ capR r) (hf : f ≤ e) (he : e ≤ L.length) (h : valC σ b A v) (hv : v.1 = 1 ∨ v.1 = 3) (hp : q < ns.length) : f77_70 F A (Int32.ofNat q) r (Int32.ofNat f) (Int32.ofNat e) σ = oI (b2i (decide (stre L f (e - f) = (pikV ns v q).2.2.2))) σ := by
  have e36 := f36_e (F := F) h
  obtain ⟨hw, hs, ho, hb⟩ := hq
  unfold f77_70 f77_95 f77_120 pikV
  rcases hv with hv | hv
  · obtain ⟨s, h0, g1, h2⟩ := h
    rcases h2 with ⟨g, e, k⟩ | ⟨g, e, f2, z, k1, k2, k3, k4, k5⟩ | ⟨g, e, k⟩ | ⟨g, e, k⟩
    · omega
    · rw [decide_eq_false (show ¬ v.1 = 3 by omega)] at e36
      rw [e36, cIo, if_pos b2i_f, e36, cIo, if_pos b2i_f, ltE, e36, cIo, if_pos b2i_f, ltE, k3, k4, f77_145_e hF h1 ⟨Or.inl rfl, rowL_buf.mpr hB, hb⟩ hf he k1 k2, if_neg (show ¬ v.1 = 3 by omega), k5]
    · omega
    · omega
  · obtain ⟨r1, r2, r3, r4⟩ := row_v (p := q) ht hs
    obtain ⟨v1, v2, v3⟩ := v_str hw.2.2.1 (hw.k4 hp) hp
    rw [decide_eq_true hv] at e36
    rw [e36, cIo, if_neg (show ¬ b2i true = 0 by decide), f132_e ht hs hp, cRo, if_pos r4, e36, cIo, if_neg (show ¬ b2i true = 0 by decide), f131_e ht hs hp, cIo, e36, cIo, if_neg (show ¬ b2i true = 0 by decide), f129_e ht hs hp, cIo, f77_145_e hF h1 ⟨r1, r2, r3⟩ hf he v1 v2, v3, if_pos hv]
    rfl
theorem f77_e {B p q : Nat} {w : Vl} (hF : 5000 ≤ F) (hq : qOk ns b) (hB : bufC σ b) (ht : cTr σ ns) (h : valC σ b A v) (hv : v.1 = 1 ∨ v.1 = 3) (g : valC σ b B w) (gv : w.1 = 1 ∨ w.1 = 3) (hp : p < ns.length) (hqn : q < ns.length) : f77 F A (Int32.ofNat p) B (Int32.ofNat q) σ = oI (b2i (decide ((pikV ns v p).2.2.2 = (pikV ns w q).2.2.2))) σ := by
  have e36 := f36_e (F := F) h
  have hq0 := hq
  obtain ⟨hw, hs, ho, hb⟩ := hq
  unfold f77 f77_22 f77_46
  rcases hv with hv | hv
  · obtain ⟨s, h0, g1, h2⟩ := h
    rcases h2 with ⟨g, e, k⟩ | ⟨g, e, f2, z, k1, k2, k3, k4, k5⟩ | ⟨g, e, k⟩ | ⟨g, e, k⟩
    · omega
    · rw [decide_eq_false (show ¬ v.1 = 3 by omega)] at e36
      rw [e36, cIo, if_pos b2i_f, e36, cIo, if_pos b2i_f, ltE, e36, cIo, if_pos b2i_f, ltE, k3, k4, f77_70_e hF hq0 hB ht ⟨Or.inl rfl, rowL_buf.mpr hB, hb⟩ k1 k2 ‹valC σ b B w› gv hqn, ← k5]
      rw [show pikV ns v p = v from if_neg (by omega)]
    · omega
    · omega
  · obtain ⟨r1, r2, r3, r4⟩ := row_v (p := p) ht hs
    obtain ⟨v1, v2, v3⟩ := v_str hw.2.2.1 (hw.k4 hp) hp
    rw [decide_eq_true hv] at e36
    rw [e36, cIo, if_neg (show ¬ b2i true = 0 by decide), f132_e ht hs hp, cRo, if_pos r4, e36, cIo, if_neg (show ¬ b2i true = 0 by decide), f131_e ht hs hp, cIo, e36, cIo, if_neg (show ¬ b2i true = 0 by decide), f129_e ht hs hp, cIo, f77_70_e hF hq0 hB ht ⟨r1, r2, r3⟩ v1 v2 g gv hqn, v3]
    rw [show pikV ns v p = vT (sv ns p) from if_pos hv]
    rfl
end CVL
