/-! THE CLASS EVALUATES: what changes, and what is kept in steps -/
def memo (ns : List Nd) (SM : Nat → Sm) (us : Nat) (σ : St) : Prop := ∀ i, i < us → ∀ q, q < ns.length → bt (σ.1 (1033 + 2 * i) 7) q = true → σ.1 (1034 + 2 * i) q = SM i q
def aqE (lo hi : Nat) (σ τ : St) : Prop := τ.2.2 = σ.2.2 ∧ (∀ A, ¬ (1033 ≤ A ∧ A < 1313) → τ.1 A = σ.1 A) ∧ (∀ i, i < 80 → ∀ j, ¬ j = 7 → τ.1 (1033 + 2 * i) j = σ.1 (1033 + 2 * i) j) ∧ (∀ i, i < 120 → ∀ j, ¬ (lo ≤ i ∧ i < hi ∧ j = 9) → τ.1 (1193 + i) j = σ.1 (1193 + i) j) ∧ (∀ i, ¬ (lo ≤ i ∧ i < hi ∧ ¬ σ.1 (1193 + i) 0 = 0) → τ.2.1 (1193 + i) = σ.2.1 (1193 + i))
section AGE
variable {lo hi : Nat} {σ τ υ : St}
theorem aqE.rf : aqE lo hi σ σ := ⟨rfl, fun _ _ => rfl, fun _ _ _ _ => rfl, fun _ _ _ _ => rfl, fun _ _ => rfl⟩
theorem aqE.tr (hh : hi ≤ 120) (h : aqE lo hi σ τ) (g : aqE lo hi τ υ) : aqE lo hi σ υ := by
  refine ⟨by rw [g.1, h.1], fun A hA => by rw [g.2.1 A hA, h.2.1 A hA], fun i hi j hj => by rw [g.2.2.1 i hi j hj, h.2.2.1 i hi j hj], fun i hi j hj => by rw [g.2.2.2.1 i hi j hj, h.2.2.2.1 i hi j hj], fun i hi => ?_⟩
  rw [g.2.2.2.2 i (fun q => hi ⟨q.1, q.2.1, fun e => q.2.2 ?_⟩), h.2.2.2.2 i hi]
  rw [h.2.2.2.1 i (by omega) 0 (by omega)]
  exact e
theorem aqE.wk {l2 h2 : Nat} (h : aqE lo hi σ τ) (hl : l2 ≤ lo) (hh : hi ≤ h2) : aqE l2 h2 σ τ := ⟨h.1, h.2.1, h.2.2.1, fun i h3 j hj => h.2.2.2.1 i h3 j (fun q => hj ⟨by omega, by omega, q.2.2⟩), fun i h3 => h.2.2.2.2 i (fun q => h3 ⟨by omega, by omega, q.2.2⟩)⟩
theorem aqE.P (h : aqE lo hi σ τ) (i : Nat) (hi : i < 120) : eqP σ τ i := by
  have e1 : τ.2.2.1 = σ.2.2.1 := by rw [h.1]
  refine ⟨⟨fun j hj _ => h.2.2.2.1 i hi j (fun q => hj q.2.2), fun j _ => by rw [e1], fun g => ?_⟩, h.2.2.2.1 i hi 4 (by omega), by rw [e1]⟩
  rw [h.2.2.2.2 i (fun q => q.2.2 g)]
theorem aqE.S {SM : Nat → Sm} (h : aqE lo hi σ τ) (i : Nat) (hi : i < 80) : eqS SM SM σ τ i := by
  have e1 : τ.2.2.1 = σ.2.2.1 := by rw [h.1]
  exact ⟨⟨fun j hj => h.2.2.1 i hi j hj, fun j _ => by rw [e1], rfl⟩, by rw [e1]⟩
theorem aqE.ref (h : aqE lo hi σ τ) : τ.2.2.1 = σ.2.2.1 := by rw [h.1]
theorem aqE.buf {b : List Int32} (h : aqE lo hi σ τ) (g : bufC σ b) : bufC τ b := g.fr (h.2.1 _ (by omega)) (h.2.1 _ (by omega))
theorem aqE.tree {ns : List Nd} (h : aqE lo hi σ τ) (g : cTr σ ns) : cTr τ ns := g.fr (fun a h1 h2 => h.2.1 a (by omega))
end AGE
theorem aqE_rep {lo hi : Nat} {σ τ : St} {b : List Int32} {ns : List Nd} {SM : Nat → Sm} {k a l h1 s t : Nat} {e : Ev} (h : aqE lo hi σ τ) (g : rep b ns SM σ k a e l h1 s t) (hh : h1 ≤ 120) (ht : t ≤ 80) : rep b ns SM τ k a e l h1 s t := by
  have := (rep_le g).1
  exact rep_fr k _ _ _ _ _ _ g (h.P a (by omega)).1 (fun i _ _ _ => h.P i (by omega)) (fun i _ _ => h.S i (by omega))
theorem aqE_pch {lo hi : Nat} {σ τ : St} {b : List Int32} {ns : List Nd} {SM : Nat → Sm} {k l h1 s t : Nat} {es : List Ev} {v : Value} (h : aqE lo hi σ τ) (g : pch (rep b ns SM σ k) σ es v l h1 s t) (hh : h1 ≤ 120) (ht : t ≤ 80) : pch (rep b ns SM τ k) τ es v l h1 s t := pch_fr (rep_fr k) g (fun i _ _ => h.P i (by omega)) (fun i _ _ => h.S i (by omega))
theorem aqE_tch {lo hi : Nat} {σ τ : St} {b : List Int32} {ns : List Nd} {SM : Nat → Sm} {k l h1 s t : Nat} {es : List (Bool × Ev)} {v : Value} (h : aqE lo hi σ τ) (g : tch (rep b ns SM σ k) σ es v l h1 s t) (hh : h1 ≤ 120) (ht : t ≤ 80) : tch (rep b ns SM τ k) τ es v l h1 s t := tch_fr (rep_fr k) g (fun i _ _ => h.P i (by omega)) (fun i _ _ => h.S i (by omega))
theorem aqE_stR {lo hi : Nat} {σ τ : St} {b : List Int32} {ns : List Nd} {SM : Nat → Sm} {k i l h1 s t : Nat} {m : Sm} (h : aqE lo hi σ τ) (g : stR b ns SM (rep b ns SM σ k) σ i m l h1 s t) (hh : h1 ≤ 120) (ht : t ≤ 80) : stR b ns SM (rep b ns SM τ k) τ i m l h1 s t := by
  have := stR_le g
  exact stR_fr (rep_fr k) g (h.S i (by omega)).1 (fun i _ _ => h.P i (by omega)) (fun i _ _ => h.S i (by omega))
theorem aqE_sch {lo hi : Nat} {σ τ : St} {b : List Int32} {ns : List Nd} {SM : Nat → Sm} {k l h1 s t : Nat} {ss : List Sm} {v : Value} (h : aqE lo hi σ τ) (g : sch (stR b ns SM (rep b ns SM σ k) σ) σ ss v l h1 s t) (hh : h1 ≤ 120) (ht : t ≤ 80) : sch (stR b ns SM (rep b ns SM τ k) τ) τ ss v l h1 s t := sch_fr (rep_fr k) g (fun i _ _ => h.P i (by omega)) (fun i _ _ => h.S i (by omega))
def eI (b : List Int32) (ns : List Nd) (SM : Nat → Sm) (us : Nat) (σ : St) : Prop := bufC σ b ∧ cTr σ ns ∧ memo ns SM us σ
def gEv (g : Nat → Int32 → Int32 → Int32 → St → Rs) (b : List Int32) (ns : List Nd) (SM : Nat → Sm) (us k : Nat) : Prop := ∀ σ a e lo hi sl sh n x l, rep b ns SM σ k a e lo hi sl sh → hi ≤ 120 → sh ≤ us → eI b ns SM us σ → n < ns.length → x ≤ 30 → l ≤ 30 → ∃ τ, g (1193 + a) (Int32.ofNat n) (Int32.ofNat x) (Int32.ofNat l) σ = oV τ ∧ aqE lo hi σ τ ∧ memo ns SM us τ ∧ valC τ b (1193 + a) (e n x l)
theorem keep_e {F A x : Nat} {b : List Int32} {ns : List Nd} {σ : St} {v : Vl} {X Y : St → Rs} (hb : b.length ≤ 120) (h : valC σ b A v) (ho : vOK ns v) (hx : x ≤ 30) : (cI (f39 F A σ) fun c9 σ8 => if c9 = 0 then cI (f37 F A σ8) fun c11 σ10 => if c11 = 0 then X σ10 else Y σ10 else lt (σ8.2.1 A 8) fun c13 => if lg_cmp c13 ((Int32.ofNat x).toInt64) = 0 then Y σ8 else X σ8) = if keepV v x = true then Y σ else X σ := by
  rw [f39_e h, cIo]
  unfold keepV
  by_cases c : v.1 = 0
  · rw [decide_eq_true c, if_neg (show ¬ b2i true = 0 by decide), ltE, if_pos c]
    have hn : nOk v.2.1 := by
      rcases ho with ⟨_, q⟩ | ⟨q, _⟩ | ⟨q, _⟩ | ⟨q, _⟩
      · exact q
      · omega
      · omega
      · omega
    have h8 : σ.2.1 A 8 = eC v.2.1 := by
      obtain ⟨s, _, _, h2⟩ := h
      rcases h2 with ⟨_, _, k⟩ | ⟨_, e, _⟩ | ⟨_, e, _⟩ | ⟨_, e, _⟩
      · exact k
      · omega
      · omega
      · omega
    rw [h8, t64, oN_i (by omega)]
    have key : lg_cmp (eC v.2.1) (Int64.ofInt (x : Int)) = 0 ↔ v.2.1 = some (x : Int) := by
      rw [lg_eq]
      cases hv : v.2.1 with
      | none =>
        constructor
        · intro g
          have g2 := congrArg Int64.toInt g
          rw [i64_in (by omega)] at g2
          have g3 : (eC none).toInt = 4611686018427387904 := by decide
          omega
        · intro g
          cases g
      | some u =>
        rw [hv] at hn
        have h1 := hn u rfl
        show Int64.ofInt u = _ ↔ _
        rw [i64_eq h1 (by omega)]
        exact ⟨fun g => by rw [g], fun g => by injection g⟩
    by_cases c2 : v.2.1 = some (x : Int)
    · rw [if_pos (key.mpr c2), if_pos (decide_eq_true c2)]
    · rw [if_neg (fun g => c2 (key.mp g)), if_neg (by rw [decide_eq_false c2]; decide)]
  · rw [decide_eq_false c, if_pos b2i_f, f37_e hb h ho, cIo, ifb, if_neg c]
section FIL
variable {F us : Nat} {b : List Int32} {ns : List Nd} {SM : Nat → Sm} {g : Nat → Int32 → Int32 → Int32 → St → Rs} {k : Nat}
theorem f69_e (hF : 20000 ≤ F) (hq : qOk ns b) (hu : us ≤ 80) (hg : gEv g b ns SM us k) {a lo hi sl sh : Nat} {e : Ev} {x : Int32} {back : Bool} {σ : St} (hr : rep b ns SM σ k a e lo hi sl sh) (hh : hi ≤ 120) (hs : sh ≤ us) (hI : eI b ns SM us σ) (hx : inN ns.length x) : ∃ τ, f69 F g x (1193 + a) (b2i back) σ = oI (filt ns.length back x e) τ ∧ aqE lo hi σ τ ∧ memo ns SM us τ := by
  have hn := hq.2.1.1.1
  have hcn := cntB_le (x := x) ns.length
  have loop : ∀ (m kk i : Nat) (left : Int32) (σ' : St), i + m = ns.length → fIv ns.length back x e i left → aqE lo hi σ σ' → memo ns SM us σ' → ∃ τ, f69_15 F g (kk + m + 1) x (1193 + a) (b2i back) (Int32.ofNat (cntB x ns.length)) (Int32.ofNat (pAt ns.length back x i)) left (Int32.ofNat i) σ' = oI (filt ns.length back x e) τ ∧ aqE lo hi σ τ ∧ memo ns SM us τ := by
    intro m
    induction m with
    | zero =>
      intro kk i left σ' hi2 hf ha hm
      have e1 : i = ns.length := by omega
      subst e1
      refine ⟨σ', ?_, ha, hm⟩
      rw [f69_15.eq_2, ltE, (ha.tree hI.2.1).1.1, if_neg (fun g => by have := (oN_lt (by omega) (by omega)).mp g; omega), fIv_end (by omega) hf]
    | succ m ih =>
      intro kk i left σ' hi2 hf ha hm
      have hil : i < ns.length := by omega
      have hql := qAt_lt (k := back) hil
      have ht := ha.tree hI.2.1
      have hB := ha.buf hI.1
      have hp := pAt_le (k := back) (x := x) (show i ≤ ns.length by omega)
      have hps := pAt_s (k := back) (x := x) hil
      have hpl := pAt_le (k := back) (x := x) (show i + 1 ≤ ns.length by omega)
      have head : f69_15 F g (kk + (m + 1) + 1) x (1193 + a) (b2i back) (Int32.ofNat (cntB x ns.length)) (Int32.ofNat (pAt ns.length back x i)) left (Int32.ofNat i) σ' = f69_48 F g (f69_15 F g (kk + m + 1)) x (1193 + a) (b2i back) (Int32.ofNat (cntB x ns.length)) (Int32.ofNat (pAt ns.length back x i)) left (Int32.ofNat i) (Int32.ofNat (qAt ns.length back i)) σ' := by
        rw [show kk + (m + 1) + 1 = (kk + m + 1) + 1 by omega, f69_15.eq_2, ltE, ht.1.1, if_pos ((oN_lt (by omega) (by omega)).mpr hil), ltE, ← qAt_i hil hn]
        split <;> rfl
      rw [head]
      unfold f69_48 f69_101 f69_110
      rw [f31_e (by omega), cIo, ifb, oN_p1, oN_p1]
      by_cases c : bt x (qAt ns.length back i) = true
      · rw [if_pos c]
        rw [if_pos c] at hps
        have hrk := rnk_q (k := back) hil c
        obtain ⟨τ, t1, t2, t3, t4⟩ := hg σ' a e lo hi sl sh (qAt ns.length back i) (pAt ns.length back x i + 1) (cntB x ns.length) (aqE_rep ha hr hh (by omega)) hh hs ⟨hB, ht, hm⟩ hql (by omega) (by omega)
        have ha2 := ha.tr hh t2
        have hev := (rep_le hr).2 (qAt ns.length back i) (pAt ns.length back x i + 1) (cntB x ns.length) hql (by omega) (by omega)
        have ek : fmb ns.length back x e (qAt ns.length back i) = keepV (e (qAt ns.length back i) (pAt ns.length back x i + 1) (cntB x ns.length)) (pAt ns.length back x i + 1) := by
          unfold fmb
          rw [hrk, c, Bool.true_and]
        rw [t1, cVo, keep_e hq.2.2.2 t4 hev (by omega)]
        by_cases c2 : keepV (e (qAt ns.length back i) (pAt ns.length back x i + 1) (cntB x ns.length)) (pAt ns.length back x i + 1) = true
        · rw [if_pos c2, ltE, ← hps]
          exact ih kk (i + 1) _ τ (by omega) (fIv_yes hil (by omega) hf (by rw [ek]; exact c2)) ha2 t3
        · rw [if_neg c2, ← hps]
          rw [Bool.not_eq_true] at c2
          exact ih kk (i + 1) _ τ (by omega) (fIv_no hil hf (by rw [ek]; exact c2)) ha2 t3
      · rw [if_neg c]
        rw [if_neg c] at hps
        have hps : pAt ns.length back x (i + 1) = pAt ns.length back x i := hps
        rw [← hps]
        rw [Bool.not_eq_true] at c
        exact ih kk (i + 1) _ σ' (by omega) (fIv_no hil hf (by unfold fmb; rw [c]; rfl)) ha hm
  unfold f69
  rw [f256_e, cIo, cnt_in hx (by omega)]
  have := loop ns.length (F - ns.length - 1) 0 0 σ (by omega) fIv_0 aqE.rf hI.2.2
  rw [show F - ns.length - 1 + ns.length + 1 = F by omega, pAt_0] at this
  exact this
end FIL
