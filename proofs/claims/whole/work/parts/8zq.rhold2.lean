/-! THE REFERENCE DECIDES A PREDICATE AT A NODE -/
theorem stB.len {ns : List Nd} : ∀ (s : List Vl) (K : Nat), stB ns s K → s.length ≤ K
  | [], _, _ => Nat.zero_le _
  | v :: s, K, h => by
    obtain ⟨w, h1, _, h3⟩ := h
    have := stB.len s _ h3
    rw [List.length_cons]
    omega
theorem idx30 {p q : Nat} : (30 : Int32) * Int32.ofNat p + Int32.ofNat q = Int32.ofNat (30 * p + q) := by
  rw [show (30 : Int32) = Int32.ofNat 30 from rfl, ← Int32.ofNat_mul, ← Int32.ofNat_add]
section RHE
variable {F np nst npr nop r node x t : Nat} {b : List Int32} {ns : List Nd} {T : Tb} {PT : Nat → Sm} {σ : St}
def rsl (ns : List Nd) (PT : Nat → Sm) (T : Tb) (nop r node : Nat) (σ : St) : Prop := ∀ o, o < nop → (T.2.2.2 o).1 = r → (T.2.2.2 o).2.1 = 4 ∨ (T.2.2.2 o).2.1 = 5 → σ.1 1352 (30 * (T.2.2.2 o).2.2.1 + node) = PT (T.2.2.2 o).2.2.1 node ∧ inN ns.length (PT (T.2.2.2 o).2.2.1 node)
theorem f235_1 {o : Nat} {k8 : Int32 → Int32 → Int32 → Int32 → Int32 → St → Rs} (hF : 15000 ≤ F) (hq : qOk ns b) (hR : eR b ns σ T np nst npr nop) (hW : opW b T np npr (T.2.2.2 o)) (hnp : np ≤ 121) (hn : nop ≤ 121) (ho : o < nop) (hnd : node < ns.length) (hx : x ≤ 1000) (ht : t ≤ 1000) (hP : (T.2.2.2 o).2.1 = 4 ∨ (T.2.2.2 o).2.1 = 5 → σ.1 1352 (30 * (T.2.2.2 o).2.2.1 + node) = PT (T.2.2.2 o).2.2.1 node ∧ inN ns.length (PT (T.2.2.2 o).2.2.1 node)) {s : List Vl} (hS : stS ns b T nop σ s) (hB : stB ns s o) (h6 : (T.2.2.2 o).2.1 = 6 → 1 ≤ s.length) (h7 : 7 ≤ (T.2.2.2 o).2.1 → 2 ≤ s.length) : ∃ τ, (if Int32.ofNat (T.2.2.2 o).2.1 = 0 then 
    if inB (Int32.ofNat o) 130 then lt (σ.1 1350 (Int32.ofNat o).toNatClampNeg) fun c5 => cV (f236 F 0 ((c5 : Int32).toInt64) σ) fun σ6 => f235_245 F k8 (Int32.ofNat r) (Int32.ofNat node) (Int32.ofNat x) (Int32.ofNat t) (Int32.ofNat o) σ6 else none
    else if Int32.ofNat (T.2.2.2 o).2.1 = 1 then cV (f236 F 1 (((-1)) - (((Int32.ofNat o) : Int32).toInt64)) σ) fun σ8 => f235_245 F k8 (Int32.ofNat r) (Int32.ofNat node) (Int32.ofNat x) (Int32.ofNat t) (Int32.ofNat o) σ8
    else if Int32.ofNat (T.2.2.2 o).2.1 = 2 then f235_91 F k8 (Int32.ofNat r) (Int32.ofNat node) (Int32.ofNat x) (Int32.ofNat t) (Int32.ofNat o) (Int32.ofNat (T.2.2.2 o).2.1) σ
    else if Int32.ofNat (T.2.2.2 o).2.1 = 3 then f235_91 F k8 (Int32.ofNat r) (Int32.ofNat node) (Int32.ofNat x) (Int32.ofNat t) (Int32.ofNat o) (Int32.ofNat (T.2.2.2 o).2.1) σ
    else if Int32.ofNat (T.2.2.2 o).2.1 = 4 then f235_125 F k8 (Int32.ofNat r) (Int32.ofNat node) (Int32.ofNat x) (Int32.ofNat t) (Int32.ofNat o) (Int32.ofNat (T.2.2.2 o).2.1) σ
    else if Int32.ofNat (T.2.2.2 o).2.1 = 5 then f235_125 F k8 (Int32.ofNat r) (Int32.ofNat node) (Int32.ofNat x) (Int32.ofNat t) (Int32.ofNat o) (Int32.ofNat (T.2.2.2 o).2.1) σ
    else if Int32.ofNat (T.2.2.2 o).2.1 = 6 then 
    lt (σ.1 1315 59) fun c18 => 
    lt (uI σ 1315 59 (c18 - 1)) fun σ19 => 
    lt (σ19.1 1315 59) fun c20 => 
    if inB c20 130 then lt (σ19.1 1359 c20.toNatClampNeg) fun c21 => 
    lt (σ19.1 1315 59) fun c22 => 
    if inB c22 130 then lt (σ19.2.1 1360 c22.toNatClampNeg) fun c23 => 
    cI (f237 F c21 c23 σ19) fun c25 σ24 => 
    if c25 = 0 then f235_233 F k8 (Int32.ofNat r) (Int32.ofNat node) (Int32.ofNat x) (Int32.ofNat t) (Int32.ofNat o) 2 1 σ24
    else f235_233 F k8 (Int32.ofNat r) (Int32.ofNat node) (Int32.ofNat x) (Int32.ofNat t) (Int32.ofNat o) 2 0 σ24 else none else none
    else cV (f239 F (Int32.ofNat (T.2.2.2 o).2.1) σ) fun σ28 => f235_245 F k8 (Int32.ofNat r) (Int32.ofNat node) (Int32.ofNat x) (Int32.ofNat t) (Int32.ofNat o) σ28) = k8 (Int32.ofNat r) (Int32.ofNat node) (Int32.ofNat x) (Int32.ofNat t) (Int32.ofNat (o + 1)) τ ∧ agH σ τ ∧ stS ns b T nop τ (opF ns b PT (T.2.2.2 o) node x t s) ∧ stB ns (opF ns b PT (T.2.2.2 o) node x t s) (o + 1) := by
  have hns := hq.2.1.1.1
  obtain ⟨w1, w2, w3, w4, w5⟩ := hW
  have tb := hR.2.2.1.2.2.2 o ho
  have hl := stB.len s o hB
  have i1 : inB (Int32.ofNat o) 130 := oN_rg (by omega) (by decide)
  have n1 := oN_n (show o < 2147483648 by omega)
  have kk : ∀ q : Nat, q ≤ 12 → (Int32.ofNat (T.2.2.2 o).2.1 = Int32.ofNat q ↔ (T.2.2.2 o).2.1 = q) := fun q hq => oN_eq (by omega) (by omega)
  have k0 : Int32.ofNat (T.2.2.2 o).2.1 = 0 ↔ (T.2.2.2 o).2.1 = 0 := kk 0 (by decide)
  have k1 : Int32.ofNat (T.2.2.2 o).2.1 = 1 ↔ (T.2.2.2 o).2.1 = 1 := kk 1 (by decide)
  have k2 : Int32.ofNat (T.2.2.2 o).2.1 = 2 ↔ (T.2.2.2 o).2.1 = 2 := kk 2 (by decide)
  have k3 : Int32.ofNat (T.2.2.2 o).2.1 = 3 ↔ (T.2.2.2 o).2.1 = 3 := kk 3 (by decide)
  have k4 : Int32.ofNat (T.2.2.2 o).2.1 = 4 ↔ (T.2.2.2 o).2.1 = 4 := kk 4 (by decide)
  have k5 : Int32.ofNat (T.2.2.2 o).2.1 = 5 ↔ (T.2.2.2 o).2.1 = 5 := kk 5 (by decide)
  have k6 : Int32.ofNat (T.2.2.2 o).2.1 = 6 ↔ (T.2.2.2 o).2.1 = 6 := kk 6 (by decide)
  have push : ∀ {tz : Int32} {xz : Int64} {w : Vl}, vM ns b T nop tz xz w → bnd ns w 1 → ∃ τ, (cV (f236 F tz xz σ) fun σ => f235_245 F k8 (Int32.ofNat r) (Int32.ofNat node) (Int32.ofNat x) (Int32.ofNat t) (Int32.ofNat o) σ) = k8 (Int32.ofNat r) (Int32.ofNat node) (Int32.ofNat x) (Int32.ofNat t) (Int32.ofNat (o + 1)) τ ∧ agH σ τ ∧ stS ns b T nop τ (w :: s) ∧ stB ns (w :: s) (o + 1) := by
    intro tz xz w hw hb
    obtain ⟨τ, t1, t2, t3⟩ := f236_e (F := F) hS (by omega) hw
    refine ⟨τ, ?_, t2, t3, hB.ps hb⟩
    rw [t1, cVo]
    unfold f235_245
    rw [oN_p1]
  generalize hkd : (T.2.2.2 o).2.1 = kd at *
  have kn : ∀ {q : Nat} {z : Int32} , (Int32.ofNat kd = z ↔ kd = q) → ¬ kd = q → ¬ Int32.ofNat kd = z := fun h g e => g (h.mp e)
  by_cases c0 : kd = 0
  · have e : opF ns b PT (T.2.2.2 o) node x t s = vN (some ((T.2.2.2 o).2.2.1 : Int)) :: s := by
      unfold opF
      rw [if_pos (by omega)]
    have := w3 c0
    rw [e, if_pos (k0.mpr c0), if_pos i1, n1, ltE, tb.2.2.1]
    exact push (Or.inl ⟨rfl, rfl, i64_n (by omega)⟩) (bnd_n (by omega))
  rw [if_neg (kn k0 c0)]
  by_cases c1 : kd = 1
  · have e : opF ns b PT (T.2.2.2 o) node x t s = vT (stre b (T.2.2.2 o).2.2.1 (T.2.2.2 o).2.2.2) :: s := by
      unfold opF
      rw [if_neg (by omega), if_pos (by omega)]
    have h4 := w4 c1
    have hb := hq.2.2.2
    rw [e, if_pos (k1.mpr c1)]
    exact push (Or.inr (Or.inl ⟨rfl, rfl, Or.inr ⟨o, ho, (cL o (by omega)).2.2, rfl, h4⟩⟩)) (bnd_t (okB_stre hq.2.2.1) (by rw [stre_len h4]; omega))
  rw [if_neg (kn k1 c1)]
  by_cases c2 : kd = 2
  · have e : opF ns b PT (T.2.2.2 o) node x t s = vN (some (x : Int)) :: s := by
      unfold opF
      rw [if_neg (by omega), if_neg (by omega), if_pos (by omega)]
    rw [e, if_pos (k2.mpr c2)]
    unfold f235_91 f235_107
    rw [if_pos (k2.mpr c2)]
    exact push (Or.inl ⟨rfl, rfl, i64_n (by omega)⟩) (bnd_n (by omega))
  rw [if_neg (kn k2 c2)]
  by_cases c3 : kd = 3
  · have e : opF ns b PT (T.2.2.2 o) node x t s = vN (some (t : Int)) :: s := by
      unfold opF
      rw [if_neg (by omega), if_neg (by omega), if_neg (by omega), if_pos (by omega)]
    rw [e, if_pos (k3.mpr c3)]
    unfold f235_91 f235_107
    rw [if_neg (kn k2 c2)]
    exact push (Or.inl ⟨rfl, rfl, i64_n (by omega)⟩) (bnd_n (by omega))
  rw [if_neg (kn k3 c3)]
  by_cases c4 : kd = 4
  · have e : opF ns b PT (T.2.2.2 o) node x t s = ctM ns (PT (T.2.2.2 o).2.2.1) node x t :: s := by
      unfold opF
      rw [if_neg (by omega), if_neg (by omega), if_neg (by omega), if_neg (by omega), if_pos (by omega)]
    have p := hP (Or.inl c4)
    have a := (w5 (Or.inl c4)).1
    have hc := cnt_in p.2 (m := 31) (by omega)
    have hc2 : cntB (PT (T.2.2.2 o).2.2.1 node) ns.length ≤ ns.length := cntB_le _
    rw [e, if_pos (k4.mpr c4)]
    unfold f235_125 f235_156 f235_174
    rw [if_pos i1, n1, ltE, tb.2.2.1, idx30, if_pos (oN_rg (by omega) (by decide)), oN_n (by omega), ltE, p.1, if_pos (k4.mpr c4), if_pos (k4.mpr c4), f234_e (by omega), cIo, hc]
    exact push (Or.inl ⟨rfl, rfl, i64_n (by omega)⟩) (bnd_n (by omega))
  rw [if_neg (kn k4 c4)]
  by_cases c5 : kd = 5
  · have e : opF ns b PT (T.2.2.2 o) node x t s = ptM (PT (T.2.2.2 o).2.2.1) node x t :: s := by
      unfold opF
      rw [if_neg (by omega), if_neg (by omega), if_neg (by omega), if_neg (by omega), if_neg (by omega), if_pos (by omega)]
    have p := hP (Or.inr c5)
    have a := (w5 (Or.inr c5)).1
    rw [e, if_pos (k5.mpr c5)]
    unfold f235_125 f235_156 f235_174
    rw [if_pos i1, n1, ltE, tb.2.2.1, idx30, if_pos (oN_rg (by omega) (by decide)), oN_n (by omega), ltE, p.1, if_neg (kn k4 c4), if_neg (kn k4 c4)]
    exact push (Or.inr (Or.inr (Or.inr ⟨rfl, rfl, rfl⟩))) (bnd_s p.2)
  rw [if_neg (kn k5 c5)]
  by_cases c6 : kd = 6
  · have := h6 c6
    rw [if_pos (k6.mpr c6)]
    cases s with
    | nil => exact absurd this (by decide)
    | cons v s =>
      have e : opF ns b PT (T.2.2.2 o) node x t (v :: s) = vB (!tru v) :: s := by
        unfold opF
        rw [if_neg (by omega), if_neg (by omega), if_neg (by omega), if_neg (by omega), if_neg (by omega), if_neg (by omega), if_pos (by omega)]
      obtain ⟨s1, s2, s3⟩ := hS
      obtain ⟨w, b1, b2, b3⟩ := hB
      have s1 : σ.1 1315 59 = Int32.ofNat (s.length + 1) := s1
      have hl : s.length + 1 ≤ o := hl
      have j1 : inB (Int32.ofNat s.length) 130 := oN_rg (by omega) (by decide)
      have m1 := oN_n (show s.length < 2147483648 by omega)
      have r1 : (uI σ 1315 59 (Int32.ofNat s.length)).1 1359 = σ.1 1359 := u_ne (by decide)
      have r2 : (uI σ 1315 59 (Int32.ofNat s.length)).2.1 = σ.2.1 := rfl
      have hR2 : eR b ns (uI σ 1315 59 (Int32.ofNat s.length)) T np nst npr nop := agH.pop.e hR
      have st := stS.pop s3
      rw [e]
      simp only [ltE, s1, oN_s1, u_eq, if_pos j1, m1, r1, r2]
      rw [f237_e (by omega) hq hR2 hn s2 b2.1, cIo, ifb]
      have fin : ∀ {xz : Int64} {z : Bool}, xz = (if z = true then 1 else 0) → ∃ τ, f235_233 F k8 (Int32.ofNat r) (Int32.ofNat node) (Int32.ofNat x) (Int32.ofNat t) (Int32.ofNat o) 2 xz (uI σ 1315 59 (Int32.ofNat s.length)) = k8 (Int32.ofNat r) (Int32.ofNat node) (Int32.ofNat x) (Int32.ofNat t) (Int32.ofNat (o + 1)) τ ∧ agH σ τ ∧ stS ns b T nop τ (vB z :: s) ∧ stB ns (vB z :: s) (o + 1) := by
        intro xz z hz
        obtain ⟨τ, t1, t2, t3⟩ := f236_e (F := F) (ty := 2) (x := xz) (v := vB z) st (by omega) (by rw [hz]; exact vM.bl)
        refine ⟨τ, ?_, agH.pop.tr t2, t3, ⟨1, ⟨by omega, by omega⟩, bnd_b, stB.up s _ _ b3 (by omega)⟩⟩
        unfold f235_233
        rw [t1, cVo]
        unfold f235_245
        rw [oN_p1]
      cases tru v with
      | true =>
        rw [if_pos rfl]
        exact fin rfl
      | false =>
        rw [if_neg (by decide)]
        exact fin rfl
  rw [if_neg (kn k6 c6)]
  have := h7 (by omega)
  match s, this with
  | [], h => exact absurd h (by decide)
  | [_], h => exact absurd h (by simp)
  | z :: v :: s, _ =>
    have hl : s.length + 1 + 1 ≤ o := hl
    have e : opF ns b PT (T.2.2.2 o) node x t (z :: v :: s) = opB ns kd v z :: s := by
      unfold opF
      rw [if_neg (by omega), if_neg (by omega), if_neg (by omega), if_neg (by omega), if_neg (by omega), if_neg (by omega), if_neg (by omega), hkd]
    obtain ⟨τ, t1, t2, t3, t4⟩ := f239_e (kd := kd) hF hq hR hn hS (by omega) ⟨by omega, by omega⟩ hB (by omega)
    rw [e, t1, cVo]
    refine ⟨τ, ?_, t2, t3, t4.up _ _ _ (by omega)⟩
    unfold f235_245
    rw [oN_p1]
theorem f235_e (hF : 15000 ≤ F) (hq : qOk ns b) (hR : eR b ns σ T np nst npr nop) (hW : TW b T np nst npr nop) (hnp : np ≤ 121) (hn : nop ≤ 121) (hnd : node < ns.length) (hx : x ≤ 1000) (ht : t ≤ 1000) (hP : rsl ns PT T nop r node σ) (hr : r < npr) (hnr : npr ≤ 121) (h1 : ∃ v, skM ns b PT T r node x t nop = [v]) : ∃ τ, f235 F (Int32.ofNat r) (Int32.ofNat node) (Int32.ofNat x) (Int32.ofNat t) σ = oI (b2i (keepV (qmM ns b PT T nop r node x t) x)) τ ∧ agH σ τ := by
  obtain ⟨v, hv⟩ := h1
  have nu := skM_nu hn (show (skM ns b PT T r node x t nop).length = 1 by rw [hv]; rfl)
  have i0 : inB 0 130 := oN_rg (p := 0) (n := 130) (by omega) (by omega)
  have loop : ∀ (m k o : Nat) (σ' : St), o + m = nop → agH σ σ' → stS ns b T nop σ' (skM ns b PT T r node x t o) → stB ns (skM ns b PT T r node x t o) o → ∃ τ, f235_8 F (k + m + 1) (Int32.ofNat r) (Int32.ofNat node) (Int32.ofNat x) (Int32.ofNat t) (Int32.ofNat o) σ' = oI (b2i (keepV (qmM ns b PT T nop r node x t) x)) τ ∧ agH σ τ := by
    intro m
    induction m with
    | zero =>
      intro k o σ' ho ha hS hB
      have e : o = nop := by omega
      subst e
      have hR' := ha.e hR
      rw [hv] at hS hB
      have q : qmM ns b PT T o r node x t = v := by
        unfold qmM
        rw [hv]
        rfl
      have hvm : vM ns b T o (σ'.1 1359 0) (σ'.2.1 1360 0) v := hS.2.1
      obtain ⟨w, _, bv, _⟩ := hB
      have tg := hvm.tg
      have t0 : σ'.1 1359 0 = 0 ↔ v.1 = 0 := by rw [tg.2]; exact oN_eq (q := 0) (by omega) (by decide)
      rw [f235_8.eq_2, ltE, hR'.2.2.2.2.2, if_neg (fun g => by have := (oN_lt (by omega) (by omega)).mp g; omega), if_pos i0, ltE]
      simp only [show (0 : Int32).toNatClampNeg = 0 from rfl, q]
      unfold keepV
      refine ⟨σ', ?_, ha⟩
      by_cases c : v.1 = 0
      · have hno : nOk v.2.1 := by
          rcases bv.1 with ⟨_, q⟩ | ⟨q, _⟩ | ⟨q, _⟩ | ⟨q, _⟩
          · exact q
          · omega
          · omega
          · omega
        have hx2 : σ'.2.1 1360 0 = eM v.2.1 := by
          rcases hvm with ⟨_, _, q⟩ | ⟨q, _⟩ | ⟨q, _⟩ | ⟨q, _⟩
          · exact q
          · omega
          · omega
          · omega
        have key : lg_cmp (σ'.2.1 1360 0) (Int32.ofNat x).toInt64 = 0 ↔ v.2.1 = some (x : Int) := by
          rw [lg_eq, hx2, show (Int32.ofNat x).toInt64 = Int64.ofInt (x : Int) from i64_n (by omega)]
          cases hz : v.2.1 with
          | none =>
            refine ⟨fun g => ?_, fun g => by cases g⟩
            have := (eM_n (o := some (x : Int)) (fun u hu => by injection hu with hu; omega)).mp g.symm
            cases this
          | some z =>
            have := hno z hz
            rw [show eM (some z) = Int64.ofInt z from rfl, i64_eq this (by omega)]
            exact ⟨fun g => by rw [g], fun g => by injection g⟩
        rw [if_pos (t0.mpr c), if_pos i0, ltE, if_pos c]
        by_cases g : v.2.1 = some (x : Int)
        · rw [if_pos (key.mpr g), decide_eq_true g]
          rfl
        · rw [if_neg (fun z => g (key.mp z)), decide_eq_false g]
          rfl
      · rw [if_neg (fun g => c (t0.mp g)), if_pos i0, ltE, if_pos i0, ltE, f237_e (by omega) hq hR' hn hvm bv.1, cIo, if_pos (b2i_z _), if_neg c]
    | succ m ih =>
      intro k o σ' ho ha hS hB
      have hR' := ha.e hR
      have tb := hR'.2.2.1.2.2.2 o (by omega)
      have hw := hW.2.2 o (by omega)
      have hnr := hW.2.2 o (by omega)
      have i1 : inB (Int32.ofNat o) 130 := oN_rg (by omega) (by decide)
      have n1 := oN_n (show o < 2147483648 by omega)
      have tb1 : σ'.1 1348 (Int32.ofNat o).toNatClampNeg = Int32.ofNat (T.2.2.2 o).1 := by
        rw [n1]
        exact tb.1
      have tb2 : σ'.1 1349 (Int32.ofNat o).toNatClampNeg = Int32.ofNat (T.2.2.2 o).2.1 := by
        rw [n1]
        exact tb.2.1
      rw [show k + (m + 1) + 1 = (k + m + 1) + 1 by omega, f235_8.eq_2, ltE, hR'.2.2.2.2.2, if_pos ((oN_lt (by omega) (by omega)).mpr (by omega)), if_pos i1, ltE, tb1]
      by_cases c : (T.2.2.2 o).1 = r
      · have e : skM ns b PT T r node x t (o + 1) = opF ns b PT (T.2.2.2 o) node x t (skM ns b PT T r node x t o) := by
          show (if (T.2.2.2 o).1 = r then _ else _) = _
          rw [if_pos c]
        have u := nu o (by omega) c
        have hp : (T.2.2.2 o).2.1 = 4 ∨ (T.2.2.2 o).2.1 = 5 → σ'.1 1352 (30 * (T.2.2.2 o).2.2.1 + node) = PT (T.2.2.2 o).2.2.1 node ∧ inN ns.length (PT (T.2.2.2 o).2.2.1 node) := by
          intro g
          rw [ha.2.1 1352 (by decide) (by decide)]
          exact hP o (by omega) c g
        obtain ⟨τ, t1, t2, t3, t4⟩ := f235_1 (r := r) (k8 := f235_8 F (k + m + 1)) hF hq hR' hw hnp hn (by omega) hnd hx ht hp hS hB u.1 u.2
        rw [if_pos (by rw [c]), if_pos i1, ltE, tb2]
        rw [t1]
        rw [← e] at t3 t4
        exact ih k (o + 1) τ (by omega) (ha.tr t2) t3 t4
      · have e : skM ns b PT T r node x t (o + 1) = skM ns b PT T r node x t o := by
          show (if (T.2.2.2 o).1 = r then _ else _) = _
          rw [if_neg c]
        have w1 := hw.1
        rw [if_neg (fun g => c ((oN_eq (by omega) (by omega)).mp g))]
        unfold f235_245
        rw [oN_p1]
        exact ih k (o + 1) σ' (by omega) ha (by rw [e]; exact hS) (by rw [e]; exact stB.up _ _ _ hB (by omega))
  have := loop nop (F - nop - 1) 0 (uI σ 1315 59 0) (by omega) agH.pop ⟨u_eq, trivial⟩ trivial
  rw [show F - nop - 1 + nop + 1 = F by omega] at this
  unfold f235
  rw [ltE]
  exact this
end RHE
