/-! THE REFERENCE WALKS A PATH -/
theorem f232_e {F : Nat} {σ : St} : ∀ a, a < 12 → f232 F (Int32.ofNat a) σ = oI (b2i (bkA a)) σ
  | 0, _ => rfl
  | 1, _ => rfl
  | 2, _ => rfl
  | 3, _ => rfl
  | 4, _ => rfl
  | 5, _ => rfl
  | 6, _ => rfl
  | 7, _ => rfl
  | 8, _ => rfl
  | 9, _ => rfl
  | 10, _ => rfl
  | 11, _ => rfl
  | n + 12, h => by omega
def eX (b : List Int32) (ns : List Nd) (PT : Nat → Sm) (T : Tb) (np nst npr nop : Nat) : Prop := qOk ns b ∧ TW b T np nst npr nop ∧ (np ≤ 121 ∧ nst ≤ 121 ∧ npr ≤ 121 ∧ nop ≤ 121) ∧ (∀ r, r < npr → ∀ n x t, ∃ v, skM ns b PT T r n x t nop = [v])
def rslK (ns : List Nd) (PT : Nat → Sm) (np k : Nat) (σ : St) : Prop := ∀ j, k < j → j < np → ∀ n, n < ns.length → σ.1 1352 (30 * j + n) = PT j n ∧ inN ns.length (PT j n)
theorem rslK.fr {ns : List Nd} {PT : Nat → Sm} {np k : Nat} {σ τ : St} (h : rslK ns PT np k σ) (g : agH σ τ) : rslK ns PT np k τ := fun j h1 h2 n hn => by
  rw [g.2.1 1352 (by decide) (by decide)]
  exact h j h1 h2 n hn
section RWK
variable {F np nst npr nop k r s p : Nat} {b : List Int32} {ns : List Nd} {T : Tb} {PT : Nat → Sm} {σ : St}
theorem rslK.at {n : Nat} (hE : eX b ns PT T np nst npr nop) (h : rslK ns PT np k σ) (hk : (T.2.1 (T.2.2.1 r)).1 = k) (hn : n < ns.length) : rsl ns PT T nop r n σ := by
  intro o ho hr hc
  have w := (hE.2.1.2.2 o ho).2.2.2.2 hc
  rw [hr, hk] at w
  exact h _ w.2 w.1 n hn
theorem f233_e {x : Int32} {back : Bool} (hF : 15000 ≤ F) (hE : eX b ns PT T np nst npr nop) (hR : eR b ns σ T np nst npr nop) (hK : rslK ns PT np k σ) (hr : r < npr) (hk : (T.2.1 (T.2.2.1 r)).1 = k) (hx : inN ns.length x) : ∃ τ, f233 F x (Int32.ofNat r) (b2i back) σ = oI (filt ns.length back x (qmM ns b PT T nop r)) τ ∧ agH σ τ := by
  have hq := hE.1
  have hn := hq.2.1.1.1
  have hcn := cntB_le (x := x) ns.length
  have loop : ∀ (m kk i : Nat) (left : Int32) (σ' : St), i + m = ns.length → fIv ns.length back x (qmM ns b PT T nop r) i left → agH σ σ' → ∃ τ, f233_15 F (kk + m + 1) x (Int32.ofNat r) (b2i back) left (Int32.ofNat (cntB x ns.length)) (Int32.ofNat (pAt ns.length back x i)) (Int32.ofNat i) σ' = oI (filt ns.length back x (qmM ns b PT T nop r)) τ ∧ agH σ τ := by
    intro m
    induction m with
    | zero =>
      intro kk i left σ' hi2 hf ha
      have e1 : i = ns.length := by omega
      subst e1
      refine ⟨σ', ?_, ha⟩
      rw [f233_15.eq_2, ltE, (ha.e hR).2.1.1, if_neg (fun g => by have := (oN_lt (by omega) (by omega)).mp g; omega), fIv_end (by omega) hf]
    | succ m ih =>
      intro kk i left σ' hi2 hf ha
      have hil : i < ns.length := by omega
      have hql := qAt_lt (k := back) hil
      have hR' := ha.e hR
      have hp := pAt_le (k := back) (x := x) (show i ≤ ns.length by omega)
      have hps := pAt_s (k := back) (x := x) hil
      have head : f233_15 F (kk + (m + 1) + 1) x (Int32.ofNat r) (b2i back) left (Int32.ofNat (cntB x ns.length)) (Int32.ofNat (pAt ns.length back x i)) (Int32.ofNat i) σ' = f233_42 F (f233_15 F (kk + m + 1)) x (Int32.ofNat r) (b2i back) left (Int32.ofNat (cntB x ns.length)) (Int32.ofNat (pAt ns.length back x i)) (Int32.ofNat i) (Int32.ofNat (qAt ns.length back i)) σ' := by
        rw [show kk + (m + 1) + 1 = (kk + m + 1) + 1 by omega, f233_15.eq_2, ltE, hR'.2.1.1, if_pos ((oN_lt (by omega) (by omega)).mpr hil), ltE, ← qAt_i hil hn]
        split <;> rfl
      rw [head]
      unfold f233_42 f233_81 f233_84
      rw [oN_p1, oN_p1]
      by_cases c : bt x (qAt ns.length back i) = true
      · rw [if_pos ((bt_m (by omega)).mpr c)]
        rw [if_pos c] at hps
        have hrk := rnk_q (k := back) hil c
        obtain ⟨τ, t1, t2⟩ := f235_e (x := pAt ns.length back x i + 1) (t := cntB x ns.length) hF hq hR' hE.2.1 (by have := hE.2.2.1; omega) (by have := hE.2.2.1; omega) hql (by omega) (by omega) ((hK.fr ha).at hE hk hql) hr (by have := hE.2.2.1; omega) (hE.2.2.2 r hr _ _ _)
        have ek : fmb ns.length back x (qmM ns b PT T nop r) (qAt ns.length back i) = keepV (qmM ns b PT T nop r (qAt ns.length back i) (pAt ns.length back x i + 1) (cntB x ns.length)) (pAt ns.length back x i + 1) := by
          unfold fmb
          rw [hrk, c, Bool.true_and]
        rw [t1, cIo, ifb]
        by_cases c2 : keepV (qmM ns b PT T nop r (qAt ns.length back i) (pAt ns.length back x i + 1) (cntB x ns.length)) (pAt ns.length back x i + 1) = true
        · rw [if_pos c2, ltE, ← hps]
          exact ih kk (i + 1) _ τ (by omega) (fIv_yes hil (by omega) hf (by rw [ek]; exact c2)) (ha.tr t2)
        · rw [if_neg c2, ltE, ← hps, Int32.or_zero]
          rw [Bool.not_eq_true] at c2
          exact ih kk (i + 1) _ τ (by omega) (fIv_no hil hf (by rw [ek]; exact c2)) (ha.tr t2)
      · rw [if_neg (fun q => c ((bt_m (by omega)).mp q))]
        rw [if_neg c] at hps
        have hps : pAt ns.length back x (i + 1) = pAt ns.length back x i := hps
        rw [← hps]
        rw [Bool.not_eq_true] at c
        exact ih kk (i + 1) _ σ' (by omega) (fIv_no hil hf (by unfold fmb; rw [c]; rfl)) ha
  unfold f233
  rw [f234_e (by omega), cIo, cnt_in hx (by omega)]
  have := loop ns.length (F - ns.length - 1) 0 0 σ (by omega) fIv_0 agH.rf
  rw [show F - ns.length - 1 + ns.length + 1 = F by omega, pAt_0] at this
  exact this
theorem inN_pr {x : Int32} (hn : ns.length ≤ 32) (hx : inN ns.length x) : ∀ m, inN ns.length (prF ns b PT T nop s x m)
  | 0 => hx
  | m + 1 => by
    show inN ns.length (if T.2.2.1 m = s then filt ns.length (bkA (T.2.1 s).2.1) (prF ns b PT T nop s x m) (qmM ns b PT T nop m) else prF ns b PT T nop s x m)
    split
    · exact inN_filt hn
    · exact inN_pr hn hx m
theorem inN_stD (hn : ns.length ≤ 32) : inN ns.length (stD ns b PT T npr nop s p) := inN_pr hn (inN_mk hn) npr
theorem f227_e (hF : 15000 ≤ F) (hE : eX b ns PT T np nst npr nop) (hR : eR b ns σ T np nst npr nop) (hK : rslK ns PT np k σ) (hs : s < nst) (hk : (T.2.1 s).1 = k) (hp : p < ns.length) : ∃ τ, f227 F (Int32.ofNat s) (Int32.ofNat p) σ = oI (stD ns b PT T npr nop s p) τ ∧ agH σ τ := by
  have hq := hE.1
  have hn := hq.2.1.1.1
  have hb := hE.2.2.1
  have hst := (hE.2.1.1 s hs).2
  have tb := hR.2.2.1.2.1 s hs
  have i1 : inB (Int32.ofNat s) 130 := oN_rg (by omega) (by decide)
  have n1 := oN_n (show s < 2147483648 by omega)
  have ha12 := hst.1
  have fil : ∀ (m kk i : Nat) (y : Int32) (σ' : St), inN ns.length y → i + m = npr → agH σ σ' → ∃ τ, f227_60 F (kk + m + 1) (Int32.ofNat s) (prF ns b PT T nop s y i) (Int32.ofNat i) σ' = oI (prF ns b PT T nop s y npr) τ ∧ agH σ τ := by
    intro m
    induction m with
    | zero =>
      intro kk i y σ' hy hi ha
      have e : i = npr := by omega
      subst e
      refine ⟨σ', ?_, ha⟩
      rw [f227_60.eq_2, ltE, (ha.e hR).2.2.2.2.1, if_neg (fun g => by have := (oN_lt (by omega) (by omega)).mp g; omega)]
    | succ m ih =>
      intro kk i y σ' hy hi ha
      have hR' := ha.e hR
      have tr := hR'.2.2.1.2.2.1 i (by omega)
      have ts := hR'.2.2.1.2.1 s hs
      have hts := hE.2.1.2.1 i (by omega)
      have j1 : inB (Int32.ofNat i) 130 := oN_rg (by omega) (by decide)
      have m1 := oN_n (show i < 2147483648 by omega)
      have e : prF ns b PT T nop s y (i + 1) = if T.2.2.1 i = s then filt ns.length (bkA (T.2.1 s).2.1) (prF ns b PT T nop s y i) (qmM ns b PT T nop i) else prF ns b PT T nop s y i := rfl
      rw [show kk + (m + 1) + 1 = (kk + m + 1) + 1 by omega, f227_60.eq_2, ltE, hR'.2.2.2.2.1, if_pos ((oN_lt (by omega) (by omega)).mpr (by omega)), if_pos j1, m1, ltE, tr]
      unfold f227_100
      rw [oN_p1]
      by_cases c : T.2.2.1 i = s
      · rw [if_pos c] at e
        rw [if_pos (by rw [c]), if_pos i1, n1, ltE, ts.2.1, f232_e _ (by omega), cIo]
        obtain ⟨τ, t1, t2⟩ := f233_e (r := i) (x := prF ns b PT T nop s y i) (back := bkA (T.2.1 s).2.1) hF hE hR' (hK.fr ha) (by omega) (by rw [c]; exact hk) (inN_pr (by omega) hy i)
        rw [t1, cIo, ← e]
        exact ih kk (i + 1) y τ hy (by omega) (ha.tr t2)
      · rw [if_neg c] at e
        rw [if_neg (fun g => c ((oN_eq (by omega) (by omega)).mp g)), ← e]
        exact ih kk (i + 1) y σ' hy (by omega) ha
  have tst : ∀ (m kk q : Nat), q + m = ns.length → f227_5 F (kk + m + 1) (Int32.ofNat s) (Int32.ofNat p) (mkS (fun q => onA ns (T.2.1 s).2.1 p q && psA ns b (T.2.1 s).2.1 (T.2.1 s).2.2.1 (T.2.1 s).2.2.2.1 (T.2.1 s).2.2.2.2 q) q) (Int32.ofNat q) σ = f227_60 F F (Int32.ofNat s) (mkS (fun q => onA ns (T.2.1 s).2.1 p q && psA ns b (T.2.1 s).2.1 (T.2.1 s).2.2.1 (T.2.1 s).2.2.2.1 (T.2.1 s).2.2.2.2 q) ns.length) 0 σ := by
    intro m
    induction m with
    | zero =>
      intro kk q hqm
      have e : q = ns.length := by omega
      rw [e, f227_5.eq_2, ltE, hR.2.1.1, if_neg (fun g => by have := (oN_lt (by omega) (by omega)).mp g; omega)]
    | succ m ih =>
      intro kk q hqm
      have i2 := ih kk (q + 1) (by omega)
      rw [show kk + (m + 1) + 1 = (kk + m + 1) + 1 by omega, f227_5.eq_2, ltE, hR.2.1.1, if_pos ((oN_lt (by omega) (by omega)).mpr (by omega)), if_pos i1, n1, ltE, tb.2.1, f228_e hq.1 hR.2.1 hn hp (by omega) (by omega), cIo, ifb]
      unfold f227_48 f227_49
      rw [oN_p1]
      have e : ∀ f : Nat → Bool, mkS f (q + 1) = if f q = true then mkS f q ||| one q else mkS f q := fun _ => rfl
      rw [e] at i2
      by_cases c : onA ns (T.2.1 s).2.1 p q = true
      · rw [if_pos c, f231_e (by omega) hq.2.2.2 hR.1 hR.2.1 hq.1 hq.2.1 (by omega) (by omega) tb.2 hst, cIo, ifb]
        by_cases c2 : psA ns b (T.2.1 s).2.1 (T.2.1 s).2.2.1 (T.2.1 s).2.2.2.1 (T.2.1 s).2.2.2.2 q = true
        · rw [if_pos c2, ltE]
          rw [if_pos (by rw [c, c2]; rfl)] at i2
          exact i2
        · rw [if_neg c2, ltE, Int32.or_zero]
          rw [if_neg (by rw [c]; simpa using c2)] at i2
          exact i2
      · rw [if_neg c, ltE, Int32.or_zero]
        rw [if_neg (by simp [c])] at i2
        exact i2
  unfold f227
  have t := tst ns.length (F - ns.length - 1) 0 (by omega)
  rw [show F - ns.length - 1 + ns.length + 1 = F by omega] at t
  have f := fil npr (F - npr - 1) 0 (mkS (fun q => onA ns (T.2.1 s).2.1 p q && psA ns b (T.2.1 s).2.1 (T.2.1 s).2.2.1 (T.2.1 s).2.2.2.1 (T.2.1 s).2.2.2.2 q) ns.length) σ (inN_mk (by omega)) (by omega) agH.rf
  rw [show F - npr - 1 + npr + 1 = F by omega] at f
  obtain ⟨τ, f1, f2⟩ := f
  refine ⟨τ, ?_, f2⟩
  refine Eq.trans ?_ f1
  exact t
theorem inN_pa {x : Int32} (hn : ns.length ≤ 32) (hx : inN ns.length x) : ∀ m, inN ns.length (paF ns b PT T npr nop k x m)
  | 0 => hx
  | m + 1 => by
    show inN ns.length (if (T.2.1 m).1 = k then uni (stD ns b PT T npr nop m) (paF ns b PT T npr nop k x m) ns.length else paF ns b PT T npr nop k x m)
    split
    · exact inN_uni _ (fun j _ => inN_stD hn)
    · exact inN_pa hn hx m
theorem f226_e {n : Nat} (hF : 15000 ≤ F) (hE : eX b ns PT T np nst npr nop) (hR : eR b ns σ T np nst npr nop) (hK : rslK ns PT np k σ) (hk : k < np) (hn2 : n < ns.length) : ∃ τ, f226 F (Int32.ofNat k) (Int32.ofNat n) σ = oI (paD ns b PT T nst npr nop k n) τ ∧ agH σ τ := by
  have hq := hE.1
  have hn := hq.2.1.1.1
  have hb := hE.2.2.1
  have i1 : inB (Int32.ofNat k) 130 := oN_rg (by omega) (by decide)
  have n1 := oN_n (show k < 2147483648 by omega)
  have key : ∀ (m kk i : Nat) (y : Int32) (σ' : St), inN ns.length y → i + m = nst → agH σ σ' → ∃ τ, f226_20 F (kk + m + 1) (Int32.ofNat k) (paF ns b PT T npr nop k y i) (Int32.ofNat i) σ' = oI (paF ns b PT T npr nop k y nst) τ ∧ agH σ τ := by
    intro m
    induction m with
    | zero =>
      intro kk i y σ' hy hi ha
      have e : i = nst := by omega
      subst e
      refine ⟨σ', ?_, ha⟩
      rw [f226_20.eq_2, ltE, (ha.e hR).2.2.2.1, if_neg (fun g => by have := (oN_lt (by omega) (by omega)).mp g; omega)]
    | succ m ih =>
      intro kk i y σ' hy hi ha
      have hR' := ha.e hR
      have ts := hR'.2.2.1.2.1 i (by omega)
      have hts := (hE.2.1.1 i (by omega)).1
      have j1 : inB (Int32.ofNat i) 130 := oN_rg (by omega) (by decide)
      have m1 := oN_n (show i < 2147483648 by omega)
      have e : paF ns b PT T npr nop k y (i + 1) = if (T.2.1 i).1 = k then uni (stD ns b PT T npr nop i) (paF ns b PT T npr nop k y i) ns.length else paF ns b PT T npr nop k y i := rfl
      rw [show kk + (m + 1) + 1 = (kk + m + 1) + 1 by omega, f226_20.eq_2, ltE, hR'.2.2.2.1, if_pos ((oN_lt (by omega) (by omega)).mpr (by omega)), if_pos j1, m1, ltE, ts.1]
      by_cases c : (T.2.1 i).1 = k
      · rw [if_pos c] at e
        rw [if_pos (by rw [c])]
        have un : ∀ (d k2 j : Nat) (σ2 : St), j + d = ns.length → agH σ σ2 → ∃ τ, f226_46 F (f226_20 F (kk + m + 1)) (k2 + d + 1) (Int32.ofNat k) (paF ns b PT T npr nop k y i) (Int32.ofNat i) (uni (stD ns b PT T npr nop i) (paF ns b PT T npr nop k y i) j) (Int32.ofNat j) σ2 = f226_20 F (kk + m + 1) (Int32.ofNat k) (uni (stD ns b PT T npr nop i) (paF ns b PT T npr nop k y i) ns.length) (Int32.ofNat (i + 1)) τ ∧ agH σ τ := by
          intro d
          induction d with
          | zero =>
            intro k2 j σ2 hj ha2
            have ej : j = ns.length := by omega
            refine ⟨σ2, ?_, ha2⟩
            rw [ej, f226_46.eq_2, ltE, (ha2.e hR).2.1.1, if_neg (fun g => by have := (oN_lt (by omega) (by omega)).mp g; omega)]
            unfold f226_91
            rw [oN_p1]
          | succ d ihd =>
            intro k2 j σ2 hj ha2
            have hR2 := ha2.e hR
            rw [show k2 + (d + 1) + 1 = (k2 + d + 1) + 1 by omega, f226_46.eq_2, ltE, hR2.2.1.1, if_pos ((oN_lt (by omega) (by omega)).mpr (by omega))]
            unfold f226_79
            rw [oN_p1]
            have e2 : uni (stD ns b PT T npr nop i) (paF ns b PT T npr nop k y i) (j + 1) = if bt (paF ns b PT T npr nop k y i) j = true then uni (stD ns b PT T npr nop i) (paF ns b PT T npr nop k y i) j ||| stD ns b PT T npr nop i j else uni (stD ns b PT T npr nop i) (paF ns b PT T npr nop k y i) j := rfl
            by_cases g : bt (paF ns b PT T npr nop k y i) j = true
            · rw [if_pos g] at e2
              rw [if_pos ((bt_m (by omega)).mpr g)]
              obtain ⟨τ, t1, t2⟩ := f227_e (s := i) (p := j) hF hE hR2 (hK.fr ha2) (by omega) c (by omega)
              rw [t1, cIo, ltE, ← e2]
              exact ihd k2 (j + 1) τ (by omega) (ha2.tr t2)
            · rw [if_neg g] at e2
              rw [if_neg (fun q => g ((bt_m (by omega)).mp q)), ltE, Int32.or_zero, ← e2]
              exact ihd k2 (j + 1) σ2 (by omega) ha2
        obtain ⟨τ, t1, t2⟩ := un ns.length (F - ns.length - 1) 0 σ' (by omega) ha
        rw [show F - ns.length - 1 + ns.length + 1 = F by omega] at t1
        obtain ⟨υ, u1, u2⟩ := ih kk (i + 1) y τ hy (by omega) t2
        rw [e] at u1
        exact ⟨υ, Eq.trans t1 u1, u2⟩
      · rw [if_neg c] at e
        rw [if_neg (fun g => c ((oN_eq (by omega) (by omega)).mp g))]
        unfold f226_91
        rw [oN_p1, ← e]
        exact ih kk (i + 1) y σ' hy (by omega) ha
  have fin := fun y hy => key nst (F - nst - 1) 0 y σ hy (by omega) agH.rf
  rw [show F - nst - 1 + nst + 1 = F by omega] at fin
  unfold f226 f226_16 paD
  rw [if_pos i1, n1, ltE, hR.2.2.1.1 k hk, ifb]
  cases T.1 k with
  | true =>
    rw [if_pos rfl, if_pos rfl]
    exact fin 1 (inN_o (p := 0) (by omega) (by omega))
  | false =>
    rw [if_neg (by decide), if_neg (by decide)]
    exact fin (one n) (inN_o hn2 (by omega))
end RWK
