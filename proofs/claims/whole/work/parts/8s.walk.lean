/-! THE CLASS WALKS: what a step gives, what a path gives -/
theorem stp_f : ∀ i, i < 80 → rfF (1033 + 2 * i) 8 = 1034 + 2 * i ∧ isO (1033 + 2 * i) 6 = true := by decide +kernel
theorem prt_f : ∀ i, i < 120 → isO (1193 + i) 1 = true := by decide +kernel
theorem bk_f : ∀ a, a < 12 → xAxB.getD a 0 = b2i (bkA a) := by decide +kernel
section WLK
variable {F us : Nat} {b : List Int32} {ns : List Nd} {SM : Nat → Sm} {g : Nat → Int32 → Int32 → Int32 → St → Rs} {k : Nat}
/-- what is given is kept -/
theorem memo.put {σ : St} {i q : Nat} {x : Int32} (hn : ns.length ≤ 30) (hi : i < 80) (hq : q < ns.length) (h : memo ns SM us σ) (hx : x = SM i q) : memo ns SM us (uI (uI σ (1034 + 2 * i) q x) (1033 + 2 * i) 7 (σ.1 (1033 + 2 * i) 7 ||| one q)) := by
  intro j hj p hp hb
  by_cases c : j = i
  · subst c
    rw [u_eq, bt_or, bt_one (by omega)] at hb
    rw [u_ne (by omega), u_at]
    by_cases c2 : p = q
    · subst c2
      rw [if_pos rfl, hx]
    · rw [if_neg c2]
      rw [decide_eq_false c2, Bool.or_false] at hb
      exact h j hj p hp hb
  · rw [u_ne (by omega), u_ne (by omega)] at hb
    rw [u_ne (by omega), u_ne (by omega)]
    exact h j hj p hp hb
theorem aqE.put {σ : St} {lo hi i q : Nat} {x y : Int32} (hi80 : i < 80) : aqE lo hi σ (uI (uI σ (1034 + 2 * i) q x) (1033 + 2 * i) 7 y) := by
  refine ⟨rfl, fun A hA => ?_, fun j hj z hz => ?_, fun j hj z _ => ?_, fun _ _ => rfl⟩
  · rw [u_ne (by omega), u_ne (by omega)]
  · by_cases c : j = i
    · subst c
      rw [u_at, if_neg hz, u_ne (by omega)]
    · rw [u_ne (by omega), u_ne (by omega)]
  · rw [u_ne (by omega), u_ne (by omega)]
theorem f65_78_e (hF : 20000 ≤ F) (hq : qOk ns b) (hu : us ≤ 80) (hg : gEv g b ns SM us k) {i a q : Nat} (hi : i < us) (ha : a < 12) (hqn : q < ns.length) : ∀ (es : List Ev) (v : Value) (lo hi sl sh kk : Nat) (x : Int32) (σ : St), pch (rep b ns SM σ k) σ es v lo hi sl sh → hi ≤ 120 → sh ≤ us → eI b ns SM us σ → σ.2.2.1 (1033 + 2 * i) 0 = .ref (100 + a) → inN ns.length x → es.foldl (filt ns.length (bkA a)) x = SM i q → ∃ τ, f65_78 F g (kk + es.length + 1) (1033 + 2 * i) (Int32.ofNat q) x v σ = oI (SM i q) τ ∧ aqE lo hi σ τ ∧ memo ns SM us τ := by
  have hn := hq.2.1.1.1
  intro es
  induction es with
  | nil =>
    intro v lo hi sl sh kk x σ hp hh hs hI hr hx hm
    have hm : x = SM i q := hm
    refine ⟨uI (uI σ (1034 + 2 * i) q x) (1033 + 2 * i) 7 (σ.1 (1033 + 2 * i) 7 ||| one q), ?_, aqE.put (show i < 80 by omega), hI.2.2.put hn (by omega) hqn hm⟩
    rw [List.length_nil, Nat.add_zero, f65_78.eq_2, hp.1, mRn, if_pos (oN_rg (by omega) (by decide)), (stp_f i (by omega)).1, oN_n (by omega), ltE, ltE, ltE, u_ne (by omega), ← hm]
    rfl
  | cons e es ih =>
    intro v lo hi sl sh kk x σ hp hh hs hI hr hx hm
    obtain ⟨c, h1, s1, hv, hc, hrest⟩ := hp
    have hle := pch_le (fun a e l h s t g => (rep_le g).1) es _ _ _ _ _ hrest
    have hcl := (rep_le hc).1
    obtain ⟨τ, t1, t2, t3⟩ := f69_e (back := bkA a) hF hq hu hg hc (by omega) (by omega) hI hx
    have hrest2 := aqE_pch t2 hrest hh (by omega)
    have ref2 := t2.ref
    have hI2 : eI b ns SM us τ := ⟨t2.buf hI.1, t2.tree hI.2.1, t3⟩
    obtain ⟨υ, u1, u2, u3⟩ := ih _ h1 hi s1 sh kk (filt ns.length (bkA a) x e) τ hrest2 hh hs hI2 (by rw [ref2]; exact hr) (inN_filt (by omega)) hm
    refine ⟨υ, ?_, (t2.wk (Nat.le_refl _) hle.1).tr hh (u2.wk (by omega) (Nat.le_refl _)), u3⟩
    rw [List.length_cons, show kk + (es.length + 1) + 1 = (kk + es.length + 1) + 1 by omega, f65_78.eq_2, hv, mRr, if_pos (prt_f c (by omega)), hr, mRr, if_pos (show isX (100 + a) = true by unfold isX; simp; omega), ltE, show 100 + a - 100 = a by omega, bk_f a ha, t1, cIo, ref2]
    rw [← u1]
    cases hw : σ.2.2.1 (1193 + c) 3 with
    | ref z =>
      have hz : ∃ c2 : Nat, z = 1193 + c2 ∧ c2 < 120 := by
        rw [hw] at hrest
        cases es with
        | nil => exact absurd hrest.1 (by simp)
        | cons e2 es2 =>
          obtain ⟨c2, h2, s2, hv2, hc2, hrest2⟩ := hrest
          have h3 := (rep_le hc2).1
          have h4 := pch_le (fun a e l h s t g => (rep_le g).1) es2 _ _ _ _ _ hrest2
          injection hv2 with hv2
          exact ⟨c2, hv2, by omega⟩
      obtain ⟨c2, rfl, hz2⟩ := hz
      rw [mRr, if_pos (prt_f c2 hz2)]
    | null => rfl
    | _ =>
      rw [hw] at hrest
      cases es with
      | nil => exact absurd hrest.1 (by simp)
      | cons e2 es2 =>
        obtain ⟨c2, h2, s2, hv2, _⟩ := hrest
        exact absurd hv2 (by simp)
theorem f65_23_e (hF : 20000 ≤ F) (hq : qOk ns b) {s a t f n q : Nat} {σ : St} {X : Rs} (hI : eI b ns SM us σ) (hc : cSt σ s a t f n) (ho : stOk b a t f n) (hqn : q < ns.length) (hX : ∀ x, x = mkS (fun p => onA ns a q p && psA ns b a t f n p) ns.length → mR (σ.2.2.1 s 4) (fun c11 => if isO c11 1 = true then f65_78 F g F s (Int32.ofNat q) x (Value.ref c11) σ else none) (f65_78 F g F s (Int32.ofNat q) x Value.null σ) = X) : f65_23 F g F s (Int32.ofNat q) 0 0 σ = X := by
  have hn := hq.2.1.1.1
  have ha := ho.1
  have key : ∀ (m kk j : Nat), j + m = ns.length → f65_23 F g (kk + m + 1) s (Int32.ofNat q) (mkS (fun p => onA ns a q p && psA ns b a t f n p) j) (Int32.ofNat j) σ = X := by
    intro m
    induction m with
    | zero =>
      intro kk j hj
      rw [f65_23.eq_2, ltE, hI.2.1.1.1, if_neg (fun g => by have := (oN_lt (by omega) (by omega)).mp g; omega)]
      exact hX _ (by rw [show j = ns.length by omega])
    | succ m ih =>
      intro kk j hj
      have i2 := ih kk (j + 1) (by omega)
      rw [show kk + (m + 1) + 1 = (kk + m + 1) + 1 by omega, f65_23.eq_2, ltE, hI.2.1.1.1, if_pos ((oN_lt (by omega) (by omega)).mpr (by omega)), hc.1, mRr, if_pos (show isX (100 + a) = true by unfold isX; simp; omega), f66_e hI.2.1 hn hq.2.1.1 hqn (by omega) ha, cIo, ifb]
      unfold f65_66
      rw [oN_p1]
      unfold mkS at i2
      by_cases c1 : onA ns a q j = true
      · rw [if_pos c1, f68_e (by omega) hq.2.2.2 hI.1 hI.2.1 hq.2.1 (by omega) hc ho, cIo, ifb]
        by_cases c2 : psA ns b a t f n j = true
        · rw [if_pos c2, ltE]
          rw [if_pos (by rw [c1, c2]; rfl)] at i2
          exact i2
        · rw [if_neg c2]
          rw [if_neg (by rw [c1]; simpa using c2)] at i2
          exact i2
      · rw [if_neg c1]
        rw [if_neg (by intro z; rw [Bool.and_eq_true] at z; exact c1 z.1)] at i2
        exact i2
  have := key ns.length (F - ns.length - 1) 0 (by omega)
  rw [show F - ns.length - 1 + ns.length + 1 = F by omega] at this
  exact this
theorem chain_len {σ : St} : ∀ (es : List Ev) (v : Value) (lo hi sl sh : Nat), pch (rep b ns SM σ k) σ es v lo hi sl sh → lo + es.length ≤ hi
  | [], _, _, _, _, _, h => h.2.1
  | _ :: es, _, _, _, _, _, h => by
    obtain ⟨a, h1, s, _, g, k⟩ := h
    have := (rep_le g).1
    have := chain_len es _ _ _ _ _ k
    rw [List.length_cons]
    omega
theorem sch_len {σ : St} : ∀ (ss : List Sm) (v : Value) (lo hi sl sh : Nat), sch (stR b ns SM (rep b ns SM σ k) σ) σ ss v lo hi sl sh → sl + ss.length ≤ sh
  | [], _, _, _, _, _, h => h.2.2
  | _ :: es, _, _, _, _, _, h => by
    obtain ⟨a, h1, s, _, g, k⟩ := h
    have := stR_le g
    have := sch_len es _ _ _ _ _ k
    rw [List.length_cons]
    omega
theorem f65_e (hF : 20000 ≤ F) (hq : qOk ns b) (hu : us ≤ 80) (hg : gEv g b ns SM us k) {i q lo hi sl sh : Nat} {m : Sm} {σ : St} (hr : stR b ns SM (rep b ns SM σ k) σ i m lo hi sl sh) (hh : hi ≤ 120) (hs : sh ≤ us) (hI : eI b ns SM us σ) (hqn : q < ns.length) : ∃ τ, f65 F g (1033 + 2 * i) (Int32.ofNat q) σ = oI (m q) τ ∧ aqE lo hi σ τ ∧ memo ns SM us τ := by
  have hn := hq.2.1.1.1
  have hle := stR_le hr
  obtain ⟨h1, h2, h3, a, t, f, n, es, h4, h5, h6, h7⟩ := hr
  unfold f65
  rw [ltE, f31_e (by omega), cIo, ifb]
  by_cases c : bt (σ.1 (1033 + 2 * i) 7) q = true
  · refine ⟨σ, ?_, aqE.rf, hI.2.2⟩
    rw [if_pos c, if_pos (oN_rg (by omega) (by decide)), ltE, (stp_f i (by omega)).1, oN_n (by omega), hI.2.2 i (by omega) q hqn c, h3]
  · rw [if_neg c]
    have hlen := chain_len es (σ.2.2.1 (1033 + 2 * i) 4) lo hi (sl + 1) sh h7
    obtain ⟨τ, t1, t2, t3⟩ := f65_78_e (i := i) (a := a) (q := q) hF hq hu hg (by omega) h5.1 hqn es (σ.2.2.1 (1033 + 2 * i) 4) lo hi (sl + 1) sh (F - es.length - 1) (mkS (fun p => onA ns a q p && psA ns b a t f n p) ns.length) σ h7 hh hs hI h4.1 (inN_mk (by omega)) (by rw [h3, h6]; rfl)
    rw [show F - es.length - 1 + es.length + 1 = F by omega] at t1
    refine ⟨τ, ?_, t2, t3⟩
    refine f65_23_e hF hq hI h4 h5 hqn (fun x hx => ?_)
    rw [hx, ← h3, ← t1]
    cases es with
    | nil => rw [h7.1, mRn]
    | cons e es =>
      obtain ⟨c2, hb2, s2, hv2, hc2, hrest2⟩ := h7
      have h8 := (rep_le hc2).1
      have h9 := pch_le (fun a e l h s t g => (rep_le g).1) es _ _ _ _ _ hrest2
      rw [hv2, mRr, if_pos (prt_f c2 (by omega))]
theorem f64_e (hF : 20000 ≤ F) (hq : qOk ns b) (hu : us ≤ 80) (hg : gEv g b ns SM us k) {i lo hi sl sh : Nat} {m : Sm} {x : Int32} {σ : St} (hr : stR b ns SM (rep b ns SM σ k) σ i m lo hi sl sh) (hh : hi ≤ 120) (hs : sh ≤ us) (hI : eI b ns SM us σ) : ∃ τ, f64 F g (1033 + 2 * i) x σ = oI (uni m x ns.length) τ ∧ aqE lo hi σ τ ∧ memo ns SM us τ := by
  have hn := hq.2.1.1.1
  have key : ∀ (d kk j : Nat) (σ' : St), j + d = ns.length → aqE lo hi σ σ' → memo ns SM us σ' → ∃ τ, f64_5 F g (kk + d + 1) (1033 + 2 * i) x (uni m x j) (Int32.ofNat j) σ' = oI (uni m x ns.length) τ ∧ aqE lo hi σ τ ∧ memo ns SM us τ := by
    intro d
    induction d with
    | zero =>
      intro kk j σ' hj ha hm
      refine ⟨σ', ?_, ha, hm⟩
      rw [f64_5.eq_2, ltE, (ha.tree hI.2.1).1.1, if_neg (fun g => by have := (oN_lt (by omega) (by omega)).mp g; omega), show j = ns.length by omega]
    | succ d ih =>
      intro kk j σ' hj ha hm
      rw [show kk + (d + 1) + 1 = (kk + d + 1) + 1 by omega, f64_5.eq_2, ltE, (ha.tree hI.2.1).1.1, if_pos ((oN_lt (by omega) (by omega)).mpr (by omega)), f31_e (by omega), cIo, ifb]
      unfold f64_36
      by_cases c : bt x j = true
      · obtain ⟨τ, t1, t2, t3⟩ := f65_e (q := j) hF hq hu hg (aqE_stR ha hr hh (by omega)) hh hs ⟨ha.buf hI.1, ha.tree hI.2.1, hm⟩ (by omega)
        have i2 := ih kk (j + 1) τ (by omega) (ha.tr hh t2) t3
        rw [show uni m x (j + 1) = if bt x j = true then uni m x j ||| m j else uni m x j from rfl, if_pos c] at i2
        rw [if_pos c, t1, cIo, ltE, oN_p1]
        exact i2
      · have i2 := ih kk (j + 1) σ' (by omega) ha hm
        rw [show uni m x (j + 1) = if bt x j = true then uni m x j ||| m j else uni m x j from rfl, if_neg c] at i2
        rw [if_neg c, oN_p1]
        exact i2
  have := key ns.length (F - ns.length - 1) 0 σ (by omega) aqE.rf hI.2.2
  rw [show F - ns.length - 1 + ns.length + 1 = F by omega] at this
  exact this
theorem f63_27_e (hF : 20000 ≤ F) (hq : qOk ns b) (hu : us ≤ 80) (hg : gEv g b ns SM us k) : ∀ (ss : List Sm) (v : Value) (lo hi sl sh kk : Nat) (x : Int32) (σ : St), sch (stR b ns SM (rep b ns SM σ k) σ) σ ss v lo hi sl sh → hi ≤ 120 → sh ≤ us → eI b ns SM us σ → ∃ τ, f63_27 F g (kk + ss.length + 1) x v σ = oI (pthF ns.length ss x) τ ∧ aqE lo hi σ τ ∧ memo ns SM us τ := by
  intro ss
  induction ss with
  | nil =>
    intro v lo hi sl sh kk x σ hp hh hs hI
    refine ⟨σ, ?_, aqE.rf, hI.2.2⟩
    rw [f63_27.eq_2, hp.1, mRn]
    rfl
  | cons m ss ih =>
    intro v lo hi sl sh kk x σ hp hh hs hI
    obtain ⟨i, h1, s1, hv, hc, hrest⟩ := hp
    have hle := sch_le (fun i m l h s t g => stR_le g) ss _ _ _ _ _ hrest
    have hcl := stR_le hc
    obtain ⟨τ, t1, t2, t3⟩ := f64_e (x := x) hF hq hu hg hc (by omega) (by omega) hI
    have hrest2 := aqE_sch t2 hrest hh (by omega)
    have ref2 := t2.ref
    obtain ⟨υ, u1, u2, u3⟩ := ih _ h1 hi s1 sh kk (uni m x ns.length) τ hrest2 hh hs ⟨t2.buf hI.1, t2.tree hI.2.1, t3⟩
    refine ⟨υ, ?_, (t2.wk (Nat.le_refl _) hle.1).tr hh (u2.wk (by omega) (Nat.le_refl _)), u3⟩
    rw [List.length_cons, show kk + (ss.length + 1) + 1 = (kk + ss.length + 1) + 1 by omega, f63_27.eq_2, hv, mRr, if_pos (stp_f i (by omega)).2, t1, cIo, ref2]
    refine Eq.trans ?_ u1
    cases ss with
    | nil => rw [hrest.1, mRn]
    | cons m2 ss2 =>
      obtain ⟨i2, h2, s2, hv2, hc2, hrest2⟩ := hrest
      have h3 := stR_le hc2
      have h4 := sch_le (fun i m l h s t g => stR_le g) ss2 _ _ _ _ _ hrest2
      rw [hv2, mRr, if_pos (stp_f i2 (by omega)).2]
theorem f63_e (hF : 20000 ≤ F) (hq : qOk ns b) (hu : us ≤ 80) (hg : gEv g b ns SM us k) {a q lo hi sl sh : Nat} {m : Sm} {σ : St} (hr : ptR b ns SM (rep b ns SM σ k) σ a m lo hi sl sh) (hh : hi ≤ 120) (hs : sh ≤ us) (hI : eI b ns SM us σ) : ∃ τ, f63 F g (1193 + a) (Int32.ofNat q) σ = oI (m q) τ ∧ aqE lo hi σ τ ∧ memo ns SM us τ := by
  obtain ⟨h1, h2, h0, h3, r, ss, h4, h5, h6⟩ := hr
  have hlen := sch_len ss _ _ _ _ _ h6
  have key : ∀ x : Int32, ∃ τ, mR (σ.2.2.1 (1193 + a) 6) (fun c3 => if isO c3 6 = true then f63_27 F g F x (Value.ref c3) σ else none) (f63_27 F g F x Value.null σ) = oI (pthF ns.length ss x) τ ∧ aqE lo hi σ τ ∧ memo ns SM us τ := by
    intro x
    obtain ⟨τ, t1, t2, t3⟩ := f63_27_e hF hq hu hg ss _ _ _ _ _ (F - ss.length - 1) x σ h6 hh hs hI
    rw [show F - ss.length - 1 + ss.length + 1 = F by omega] at t1
    refine ⟨τ, ?_, t2.wk (by omega) (Nat.le_refl _), t3⟩
    rw [← t1]
    cases ss with
    | nil => rw [h6.1, mRn]
    | cons m2 ss2 =>
      obtain ⟨i2, h2, s2, hv2, hc2, hrest2⟩ := h6
      have h3 := stR_le hc2
      have h4 := sch_le (fun i m l h s t g => stR_le g) ss2 _ _ _ _ _ hrest2
      rw [hv2, mRr, if_pos (stp_f i2 (by omega)).2]
  unfold f63 f63_19
  rw [ltE, h4, ifb, h5]
  show ∃ τ, _ = oI (pthF ns.length ss (one (if r = true then 0 else q))) τ ∧ _
  cases r with
  | true =>
    rw [if_pos rfl, if_pos rfl]
    exact key (one 0)
  | false =>
    rw [if_neg (by decide), if_neg (by decide)]
    exact key (one q)
end WLK
