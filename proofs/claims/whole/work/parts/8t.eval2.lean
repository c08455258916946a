/-! THE CLASS EVALUATES a part -/
theorem uJ_at {σ : St} {a j : Nat} {x : Int64} : (uJ σ a j x).2.1 a j = x := by simp [uJ, vp_updL]
theorem uJ_ne {σ : St} {a c j : Nat} {x : Int64} (h : ¬ c = a) : (uJ σ a j x).2.1 c = σ.2.1 c := by simp [uJ, h]
theorem valC.fr {σ τ : St} {b : List Int32} {A : Nat} {v : Vl} (h : valC σ b A v) (h1 : τ.1 A = σ.1 A) (h2 : τ.2.1 A = σ.2.1 A) : valC τ b A v := by
  obtain ⟨s, h0, g1, g2⟩ := h
  refine ⟨s, h0, by rw [h1]; exact g1, ?_⟩
  rw [h1, h2]
  exact g2
theorem aqE.out {lo hi i : Nat} {σ τ : St} (h : aqE lo hi σ τ) (h120 : i < 120) (ho : i < lo ∨ hi ≤ i) : τ.1 (1193 + i) = σ.1 (1193 + i) ∧ τ.2.1 (1193 + i) = σ.2.1 (1193 + i) := ⟨funext fun j => h.2.2.2.1 i h120 j (by omega), h.2.2.2.2 i (by omega)⟩
theorem aqE.num {lo hi a : Nat} {σ : St} {x : Int64} (h1 : lo ≤ a) (h2 : a < hi) (h0 : ¬ σ.1 (1193 + a) 0 = 0) : aqE lo hi σ (uJ σ (1193 + a) 8 x) := by
  refine ⟨rfl, fun _ _ => rfl, fun _ _ _ _ => rfl, fun _ _ _ _ => rfl, fun i hi => uJ_ne (fun e => ?_)⟩
  have : i = a := by omega
  subst this
  exact hi ⟨h1, h2, h0⟩
theorem aqE.set {lo hi a : Nat} {σ : St} {x : Int32} (h1 : lo ≤ a) (h2 : a < hi) (hh : hi ≤ 120) : aqE lo hi σ (uI σ (1193 + a) 9 x) := by
  refine ⟨rfl, fun A hA => ?_, fun i hi j hj => (by rw [u_ne (by omega)]), fun i hi j hj => ?_, fun _ _ => rfl⟩
  · by_cases c : A = 1193 + a
    · subst c
      exfalso
      omega
    · exact u_ne c
  · by_cases c : i = a
    · subst c
      rw [u_at, if_neg (by omega)]
    · rw [u_ne (by omega)]
theorem sumO_none {ns : List Nd} {n p t : Nat} : ∀ l : List (Bool × Ev), sumO ns n p t l none = none
  | [] => rfl
  | _ :: l => sumO_none l
def vld (v : Value) : Prop := v = .null ∨ ∃ c : Nat, c < 120 ∧ v = .ref (1193 + c)
section EV2
variable {F us : Nat} {b : List Int32} {ns : List Nd} {SM : Nat → Sm} {g : Nat → Int32 → Int32 → Int32 → St → Rs} {k : Nat}
theorem tch_vld {σ : St} : ∀ (l : List (Bool × Ev)) (v : Value) (lo hi sl sh : Nat), tch (rep b ns SM σ k) σ l v lo hi sl sh → hi ≤ 120 → vld v
  | [], _, _, _, _, _, h, _ => Or.inl h.1
  | _ :: es, _, _, _, _, _, h, hh => by
    obtain ⟨a, h1, s, hv, _, g, k⟩ := h
    have h2 := (rep_le g).1
    have h3 := tch_le (fun a e l h s t g => (rep_le g).1) es _ _ _ _ _ k
    exact Or.inr ⟨a, by omega, hv⟩
theorem f71_9_s (hF : 20000 ≤ F) (hq : qOk ns b) (hg : gEv g b ns SM us k) {c lo hi sl sh n x t kk : Nat} {e : Ev} {f : Bool} {acc : Int} {σ : St} (hr : rep b ns SM σ k c e lo hi sl sh) (hh : hi ≤ 120) (hs : sh ≤ us) (hI : eI b ns SM us σ) (hn : n < ns.length) (hx : x ≤ 30) (ht : t ≤ 30) (hf : σ.1 (1193 + c) 4 = b2i f) (hv : vld (σ.2.2.1 (1193 + c) 3)) : ∃ τ, aqE lo hi σ τ ∧ memo ns SM us τ ∧ f71_9 F g (kk + 1) (Int32.ofNat n) (Int32.ofNat x) (Int32.ofNat t) (Int64.ofInt acc) (.ref (1193 + c)) σ = match addO f (some acc) (nmV ns (e n x t)) with
    | none => oJ (eC none) τ
    | some w => f71_9 F g kk (Int32.ofNat n) (Int32.ofNat x) (Int32.ofNat t) (Int64.ofInt w) (σ.2.2.1 (1193 + c) 3) τ := by
  have hle := (rep_le hr).1
  obtain ⟨τ, t1, t2, t3, t4⟩ := hg σ c e lo hi sl sh n x t hr hh hs hI hn hx ht
  have hev := (rep_le hr).2 n x t hn hx ht
  have hB := t2.buf hI.1
  have hT := t2.tree hI.2.1
  have h4 : τ.1 (1193 + c) 4 = b2i f := by
    rw [t2.2.2.2.1 c (by omega) 4 (by omega)]
    exact hf
  refine ⟨τ, t2, t3, ?_⟩
  have k73 := f73_f (F := F) (by omega) hq hB hT t4
  have two : ∀ {X : Int32 → St → Rs}, cI (f72 F (τ.1 (1193 + c) 9) τ) X = X (match lowS (τ.1 (1193 + c) 9) ns.length 0 with | none => -1 | some p => Int32.ofNat p) τ := by
    intro X
    rw [f72_e (by omega) hT hq.2.1.1.1, cIo]
    rfl
  rw [two] at k73
  rw [f71_9.eq_2, mRr, if_pos (prt_f c (by omega)), t1, cVo, ltE, two, k73, cJo]
  have nxt : ∀ {w : Int}, (mR (.ref (1193 + c)) (fun c12 => if isO c12 1 = true then mR (τ.2.2.1 c12 3) (fun c13 => if isO c13 1 = true then f71_9 F g kk (Int32.ofNat n) (Int32.ofNat x) (Int32.ofNat t) (Int64.ofInt w) (Value.ref c13) τ else none) (f71_9 F g kk (Int32.ofNat n) (Int32.ofNat x) (Int32.ofNat t) (Int64.ofInt w) Value.null τ) else none) none : Rs) = f71_9 F g kk (Int32.ofNat n) (Int32.ofNat x) (Int32.ofNat t) (Int64.ofInt w) (σ.2.2.1 (1193 + c) 3) τ := by
    intro w
    rw [mRr, if_pos (prt_f c (by omega)), t2.ref]
    rcases hv with hv | ⟨d, hd, hv⟩
    · rw [hv, mRn]
    · rw [hv, mRr, if_pos (prt_f d hd)]
  cases hm : nmV ns (e n x t) with
  | none =>
    rw [if_pos ((lg_eq (eC none) 4611686018427387904).mpr rfl)]
    rfl
  | some u =>
    have hu := hev.n
    rw [hm] at hu
    rw [if_neg (fun q => by have := (eC_n hu).mp ((lg_eq _ _).mp q); cases this), ltE, h4]
    unfold f71_72
    show (if b2i f = 0 then lt (Int64.ofInt acc + Int64.ofInt u) _ else lt (Int64.ofInt acc + -(Int64.ofInt u)) _) = _
    cases f with
    | false =>
      rw [if_pos b2i_f, ltE, ← Int64.ofInt_add]
      exact nxt
    | true =>
      rw [if_neg (show ¬ b2i true = 0 by decide), ltE, neg64, ← Int64.ofInt_add]
      exact nxt
theorem f71_9_e (hF : 20000 ≤ F) (hq : qOk ns b) (hu : us ≤ 80) (hg : gEv g b ns SM us k) {n x t : Nat} (hn : n < ns.length) (hx : x ≤ 30) (ht : t ≤ 30) : ∀ (l : List (Bool × Ev)) (v : Value) (lo hi sl sh kk : Nat) (acc : Int) (σ : St), tch (rep b ns SM σ k) σ l v lo hi sl sh → hi ≤ 120 → sh ≤ us → eI b ns SM us σ → ∃ τ, f71_9 F g (kk + l.length + 1) (Int32.ofNat n) (Int32.ofNat x) (Int32.ofNat t) (Int64.ofInt acc) v σ = oJ (eC (sumO ns n x t l (some acc))) τ ∧ aqE lo hi σ τ ∧ memo ns SM us τ := by
  intro l
  induction l with
  | nil =>
    intro v lo hi sl sh kk acc σ hp hh hs hI
    refine ⟨σ, ?_, aqE.rf, hI.2.2⟩
    rw [f71_9.eq_2, hp.1, mRn]
    rfl
  | cons y l ih =>
    intro v lo hi sl sh kk acc σ hp hh hs hI
    obtain ⟨c, h1, s1, hv, hf, hc, hrest⟩ := hp
    have hle := tch_le (fun a e l h s t g => (rep_le g).1) l _ _ _ _ _ hrest
    have hcl := (rep_le hc).1
    obtain ⟨τ, t1, t2, t3⟩ := f71_9_s (kk := kk + l.length + 1) (acc := acc) hF hq hg hc (by omega) (by omega) hI hn hx ht hf (tch_vld l _ _ _ _ _ hrest hh)
    rw [List.length_cons, show kk + (l.length + 1) + 1 = (kk + l.length + 1) + 1 by omega, hv, t3]
    show ∃ υ, _ = oJ (eC (sumO ns n x t l (addO y.1 (some acc) (nmV ns (y.2 n x t))))) υ ∧ _
    have w1 : aqE lo hi σ τ := t1.wk (Nat.le_refl _) hle.1
    cases hm : addO y.1 (some acc) (nmV ns (y.2 n x t)) with
    | none =>
      rw [sumO_none]
      exact ⟨τ, rfl, w1, t2⟩
    | some w =>
      have hrest2 := aqE_tch t1 hrest hh (by omega)
      obtain ⟨υ, u1, u2, u3⟩ := ih _ h1 hi s1 sh kk w τ hrest2 hh hs ⟨t1.buf hI.1, t1.tree hI.2.1, t2⟩
      exact ⟨υ, u1, w1.tr hh (u2.wk (by omega) (Nat.le_refl _)), u3⟩
theorem tch_len {σ : St} : ∀ (l : List (Bool × Ev)) (v : Value) (lo hi sl sh : Nat), tch (rep b ns SM σ k) σ l v lo hi sl sh → lo + l.length ≤ hi
  | [], _, _, _, _, _, h => h.2.1
  | _ :: es, _, _, _, _, _, h => by
    obtain ⟨a, h1, s, _, _, g, k⟩ := h
    have := (rep_le g).1
    have := tch_len es _ _ _ _ _ k
    rw [List.length_cons]
    omega
theorem f71_e (hF : 20000 ≤ F) (hq : qOk ns b) (hu : us ≤ 80) (hg : gEv g b ns SM us k) {n x t a c lo hi sl sh s : Nat} {e0 : Ev} {l : List (Bool × Ev)} {σ : St} (hn : n < ns.length) (hx : x ≤ 30) (ht : t ≤ 30) (h1 : σ.2.2.1 (1193 + a) 1 = .ref (1193 + c)) (h4 : σ.1 (1193 + c) 4 = 0) (hc : rep b ns SM σ k c e0 lo a sl s) (hl : tch (rep b ns SM σ k) σ l (σ.2.2.1 (1193 + c) 3) (a + 1) hi s sh) (hh : hi ≤ 120) (hs : sh ≤ us) (hI : eI b ns SM us σ) : ∃ τ, f71 F g (1193 + a) (Int32.ofNat n) (Int32.ofNat x) (Int32.ofNat t) σ = oJ (eC (sumO ns n x t ((false, e0) :: l) (some 0))) τ ∧ aqE lo hi σ τ ∧ memo ns SM us τ := by
  have hle := tch_le (fun a e l h s t g => (rep_le g).1) l _ _ _ _ _ hl
  have hcl := (rep_le hc).1
  have hlen := tch_len l _ _ _ _ _ hl
  obtain ⟨τ, t1, t2, t3⟩ := f71_9_s (kk := F - 1) (acc := 0) (f := false) hF hq hg hc (by omega) (by omega) hI hn hx ht h4 (tch_vld l _ _ _ _ _ hl hh)
  have w1 : aqE lo hi σ τ := t1.wk (Nat.le_refl _) (by omega)
  unfold f71
  rw [h1, mRr, if_pos (prt_f c (by omega))]
  rw [show F - 1 + 1 = F by omega] at t3
  rw [show (0 : Int64) = Int64.ofInt 0 from rfl, t3]
  show ∃ υ, _ = oJ (eC (sumO ns n x t l (addO false (some 0) (nmV ns (e0 n x t))))) υ ∧ _
  cases hm : addO false (some 0) (nmV ns (e0 n x t)) with
  | none =>
    rw [sumO_none]
    exact ⟨τ, rfl, w1, t2⟩
  | some w =>
    have hrest2 := aqE_tch t1 hl hh (by omega)
    obtain ⟨υ, u1, u2, u3⟩ := f71_9_e hF hq hu hg hn hx ht l _ _ _ _ _ (F - 1 - l.length - 1) w τ hrest2 hh hs ⟨t1.buf hI.1, t1.tree hI.2.1, t2⟩
    rw [show F - 1 - l.length - 1 + l.length + 1 = F - 1 by omega] at u1
    exact ⟨υ, u1, w1.tr hh (u2.wk (by omega) (Nat.le_refl _)), u3⟩
theorem f70_c (hF : 20000 ≤ F) (hq : qOk ns b) (hu : us ≤ 80) (hg : gEv g b ns SM us k) {n x t a c d lo hi sl sh s o : Nat} {e1 e2 : Ev} {σ : St} (hn : n < ns.length) (hx : x ≤ 30) (ht : t ≤ 30) (ho : o < 4) (h0 : σ.1 (1193 + a) 0 = Int32.ofNat (8 + o)) (h1 : σ.2.2.1 (1193 + a) 1 = .ref (1193 + c)) (h2 : σ.2.2.1 (1193 + a) 2 = .ref (1193 + d)) (hc : rep b ns SM σ k c e1 lo a sl s) (hd : rep b ns SM σ k d e2 (a + 1) hi s sh) (hh : hi ≤ 120) (hs : sh ≤ us) (hI : eI b ns SM us σ) : ∃ τ, (mR (σ.2.2.1 (1193 + a) 1) (fun c26 => if isO c26 1 = true then cV (g c26 (Int32.ofNat n) (Int32.ofNat x) (Int32.ofNat t) σ) fun σ27 => mR (σ27.2.2.1 (1193 + a) 2) (fun c29 => if isO c29 1 = true then cV (g c29 (Int32.ofNat n) (Int32.ofNat x) (Int32.ofNat t) σ27) fun σ30 => lt (σ30.1 (1193 + a) 0) fun c32 => mR (σ30.2.2.1 (1193 + a) 1) (fun c33 => if isO c33 1 = true then mR (σ30.2.2.1 (1193 + a) 2) (fun c34 => if isO c34 1 = true then cI (f74 F c32 c33 c34 σ30) fun c36 σ35 => if c36 = 0 then lt (uJ σ35 (1193 + a) 8 0) fun σ37 => oV σ37 else lt (uJ σ35 (1193 + a) 8 1) fun σ38 => oV σ38 else none) (none) else none) (mR (σ30.2.2.1 (1193 + a) 2) (fun c39 => if isO c39 1 = true then none else none) (none)) else none) (none) else none) (none) : Rs) = oV τ ∧ aqE lo hi σ τ ∧ memo ns SM us τ ∧ valC τ b (1193 + a) (cmM ns o e1 e2 n x t) := by
  have q1 := (rep_le hc).1
  have q2 := (rep_le hd).1
  obtain ⟨τ, t1, t2, t3, t4⟩ := hg σ c e1 lo a sl s n x t hc (by omega) (by omega) hI hn hx ht
  have w1 : aqE lo hi σ τ := t2.wk (Nat.le_refl _) (by omega)
  obtain ⟨υ, u1, u2, u3, u4⟩ := hg τ d e2 (a + 1) hi s sh n x t (aqE_rep t2 hd hh (by omega)) hh hs ⟨t2.buf hI.1, t2.tree hI.2.1, t3⟩ hn hx ht
  have w2 : aqE lo hi σ υ := w1.tr hh (u2.wk (by omega) (Nat.le_refl _))
  have o2 := u2.out (i := c) (by omega) (by omega)
  have t5 := t4.fr o2.1 o2.2
  have r2 : υ.2.2.1 = σ.2.2.1 := w2.ref
  have r1 : τ.2.2.1 = σ.2.2.1 := w1.ref
  have s2 : υ.1 (1193 + a) 0 = Int32.ofNat (8 + o) := by
    rw [w2.2.2.2.1 a (by omega) 0 (by omega)]
    exact h0
  have v1 := (rep_le hc).2 n x t hn hx ht
  have v2 := (rep_le hd).2 n x t hn hx ht
  have key := f74_e (F := F) ho (by omega) hq (w2.buf hI.1) (w2.tree hI.2.1) t5 v1 u4 v2
  have nz : ¬ υ.1 (1193 + a) 0 = 0 := by
    rw [s2]
    intro q
    have := (oE0 (by omega)).mp q
    omega
  have fin : ∀ z : Bool, valC (uJ υ (1193 + a) 8 (if z = true then 1 else 0)) b (1193 + a) (vB z) := by
    intro z
    refine ⟨8 + o, by omega, s2, Or.inr (Or.inr (Or.inr ⟨by omega, rfl, ?_⟩))⟩
    rw [uJ_at]
    cases z <;> rfl
  have f2 := fin (cmpS ns o (e1 n x t) (e2 n x t))
  refine ⟨uJ υ (1193 + a) 8 (if cmpS ns o (e1 n x t) (e2 n x t) = true then 1 else 0), ?_, w2.tr hh (aqE.num (by omega) (by omega) nz), u3, f2⟩
  rw [h1, mRr, if_pos (prt_f c (by omega)), t1, cVo, r1, h2, mRr, if_pos (prt_f d (by omega)), u1, cVo, ltE, r2, h1, mRr, if_pos (prt_f c (by omega)), h2, mRr, if_pos (prt_f d (by omega)), s2, key, cIo]
  cases cmpS ns o (e1 n x t) (e2 n x t) <;> rfl
end EV2
