/-! THE JUDGEMENT OVER THE STORE: r is what a run from here gives, none where nothing is said -/
abbrev Ou : Type := Option Value ⊕ Nat
abbrev Rs : Type := Option (Ou × St)
def oX (o : Ou) (σ : St) : Outcome := match o with
  | .inl v => .returned v
  | .inr _ => .threw (1361 + σ.2.2.2.length)
def gH (σ : St) : aH := mkH σ ++ σ.2.2.2
def thO (o : Ou) (σ : St) : Prop := match o with
  | .inl _ => True
  | .inr c => ∃ τ, σ = uX τ c
def bEx (sc : aSc) (h M pc : Nat) (ls : aL) (st : List Value) (σ : St) (r : Rs) : Prop := ∀ (o : Ou) (σ' : St), r = some (o, σ') → thO o σ' ∧ ∀ (d : Nat), h ≤ d → aEx sc d M pc ls st (gH σ) (oX o σ') (gH σ')
/-- instructions that neither read nor write the heap -/
def isP (i : Instr) : Bool := match i with
  | .aconst_null => true
  | .iconst _ => true
  | .bipush _ => true
  | .sipush _ => true
  | .lconst _ => true
  | .ldc _ => true
  | .ldc_w _ => true
  | .ldc2_w _ => true
  | .iload_n _ => true
  | .iload _ => true
  | .lload_n _ => true
  | .lload _ => true
  | .aload_n _ => true
  | .aload _ => true
  | .istore_n _ => true
  | .istore _ => true
  | .lstore_n _ => true
  | .lstore _ => true
  | .astore_n _ => true
  | .astore _ => true
  | .iinc _ _ => true
  | .iadd => true
  | .isub => true
  | .imul => true
  | .iand => true
  | .ior => true
  | .ixor => true
  | .ishl => true
  | .ishr => true
  | .iushr => true
  | .ineg => true
  | .ladd => true
  | .lsub => true
  | .lmul => true
  | .land => true
  | .lor => true
  | .lxor => true
  | .lshl => true
  | .lshr => true
  | .lushr => true
  | .lneg => true
  | .lcmp => true
  | .i2l => true
  | .l2i => true
  | .i2c => true
  | .i2b => true
  | .dup => true
  | .pop => true
  | .dup_x1 => true
  | .dup_x2 => true
  | .dup2 => true
  | .pop2 => true
  | .ifCond _ _ => true
  | .if_icmp _ _ => true
  | .if_acmp _ _ => true
  | .ifnull _ => true
  | .ifnonnull _ => true
  | .goto _ => true
  | .tableswitch _ _ _ _ => true
  | _ => false
def s0 : aSc := (0, fun _ => 0, .null)
theorem isP_kd {i : aI} (hp : isP i.1 = true) : aKd i = 0 := by
  obtain ⟨ins, x, y, v⟩ := i
  cases ins <;> first | rfl | (exact (Bool.false_ne_true hp).elim)
theorem aStep_p {sc : aSc} {i : aI} {pc : Nat} {ls : aL} {st : List Value} {A : aH} {c : aC} (hp : isP i.1 = true) (hs : aStep s0 i pc ls st [] = some c) : aStep sc i pc ls st A = some (c.1, c.2.1, c.2.2.1, A) := by
  obtain ⟨ins, x, y, v⟩ := i
  cases ins
  all_goals first
    | (exact (Bool.false_ne_true hp).elim)
    | (simp only [aStep, aLdI, aLdL, aLdA, aStI, aStL, aStA, aI2, aL2, aLS, aBr] at hs ⊢
       (repeat' (split at hs)) <;> first | (cases hs; done) | (cases hs; rfl) | (cases hs; simp_all))
def pRun : List (Nat × aI) → Nat → aL → List Value → Option (Nat × aL × List Value)
  | [], pc, ls, st => some (pc, ls, st)
  | q :: is, pc, ls, st => if q.1 = pc then match aStep s0 q.2 pc ls st [] with
    | some c => pRun is c.1 c.2.1 c.2.2.1
    | none => none
    else none
def ckR (M : Nat) (is : List (Nat × aI)) : Bool := is.all (fun q => decide (aTb M q.1 = some q.2) && isP q.2.1)
section BEX
variable {sc : aSc} {h M pc pc' : Nat} {ls ls' : aL} {st st' rest : List Value} {σ σ1 : St} {r r1 r2 : Rs} {a b ci k q t y n : Nat} {w : Value} {x z : Int32}
theorem b_none : bEx sc h M pc ls st σ none := fun o σ' e => by cases e
theorem b_up {h' : Nat} (hh : h ≤ h') (kk : bEx sc h M pc ls st σ r) : bEx sc h' M pc ls st σ r := fun o σ' e => ⟨(kk o σ' e).1, fun d hd => (kk o σ' e).2 d (Nat.le_trans hh hd)⟩
theorem b_guard {p : Prop} [Decidable p] (kk : p → bEx sc h M pc ls st σ r) : bEx sc h M pc ls st σ (if p then r else none) := by
  by_cases hp : p
  · rw [if_pos hp]; exact kk hp
  · rw [if_neg hp]; exact b_none
theorem b_wk (hw : wk ls' ls) (kk : bEx sc h M pc ls' st σ r) : bEx sc h M pc ls st σ r := fun o σ' e => ⟨(kk o σ' e).1, fun d hd => by
  obtain ⟨n, hn⟩ := (kk o σ' e).2 d hd
  exact ⟨n, aRun_wk _ _ _ _ _ _ _ _ _ hw hn⟩⟩
theorem b_one {i : aI} (hi : aTb M pc = some i) (hk : aKd i = 0) (hs : aStep sc i pc ls st (gH σ) = some (pc', ls', st', gH σ1)) (kk : bEx sc h M pc' ls' st' σ1 r) : bEx sc h M pc ls st σ r :=
  fun o σ' e => ⟨(kk o σ' e).1, fun d hd => ex_step hi hk hs ((kk o σ' e).2 d hd)⟩
theorem b_runA : ∀ (is : List (Nat × aI)) (pc : Nat) (ls : aL) (st : List Value), ckR M is = true → pRun is pc ls st = some (pc', ls', st') → bEx sc h M pc' ls' st' σ r → bEx sc h M pc ls st σ r
  | [], pc, ls, st, _, hr, kk => by
    simp only [pRun, Option.some.injEq, Prod.mk.injEq] at hr
    obtain ⟨rfl, rfl, rfl⟩ := hr
    exact kk
  | q :: is, pc, ls, st, hc, hr, kk => by
    simp only [ckR, List.all_cons, Bool.and_eq_true, decide_eq_true_eq] at hc
    obtain ⟨⟨h1, h2⟩, h3⟩ := hc
    unfold pRun at hr
    split at hr
    · rename_i hq
      subst hq
      split at hr
      · rename_i c hs
        refine b_one h1 (isP_kd h2) (aStep_p h2 hs) ?_
        exact b_runA is _ _ _ h3 hr kk
      · cases hr
    · cases hr
theorem b_run (is : List (Nat × aI)) (hc : ckR M is = true) (hr : pRun is pc ls st = some (pc', ls', st')) (kk : bEx sc h M pc' ls' st' σ r) : bEx sc h M pc ls st σ r := b_runA is _ _ _ hc hr kk
theorem b_gs (hi : aTb M pc = some (.getstatic q, 0, y, w)) (kk : bEx sc h M (pc + 3) ls (w :: st) σ r) : bEx sc h M pc ls st σ r :=
  b_one hi rfl rfl kk
theorem b_getI (hi : aTb M pc = some (.getfield q, ci, k, w)) (hI : isI a ci k = true) (kk : bEx sc h M (pc + 3) ls (.int (σ.1 a k) :: rest) σ r) : bEx sc h M pc ls (.ref a :: rest) σ r :=
  b_one hi rfl (by unfold gH; simp only [aStep, aPush, fld_I hI]) kk
theorem b_getJ (hi : aTb M pc = some (.getfield q, ci, k, w)) (hI : isJ a ci k = true) (kk : bEx sc h M (pc + 3) ls (.long (σ.2.1 a k) :: rest) σ r) : bEx sc h M pc ls (.ref a :: rest) σ r :=
  b_one hi rfl (by unfold gH; simp only [aStep, aPush, fld_J hI]) kk
theorem b_getC (hi : aTb M pc = some (.getfield q, ci, k, w)) (hI : isC a ci k b = true) (kk : bEx sc h M (pc + 3) ls (.ref b :: rest) σ r) : bEx sc h M pc ls (.ref a :: rest) σ r :=
  b_one hi rfl (by unfold gH; simp only [aStep, aPush, fld_C hI]) kk
theorem b_getM (hi : aTb M pc = some (.getfield q, ci, k, w)) (hI : isM a ci k = true) (kk : bEx sc h M (pc + 3) ls (σ.2.2.1 a k :: rest) σ r) : bEx sc h M pc ls (.ref a :: rest) σ r :=
  b_one hi rfl (by unfold gH; simp only [aStep, aPush, fld_M hI]) kk
theorem fit_I (x : Int32) : aFit .int (.int x) = true := by simp [aFit, narrow, fits]
theorem fit_J (x : Int64) : aFit .long (.long x) = true := by simp [aFit, narrow, fits]
theorem b_putI (hi : aTb M pc = some (.putfield q, ci, k, w)) (hI : isI a ci k = true) (hf : aFit (aFt ci k) (.int x) = true) (kk : bEx sc h M (pc + 3) ls rest (uI σ a k x) r) : bEx sc h M pc ls (.int x :: .ref a :: rest) σ r :=
  b_one hi rfl (by unfold gH; simp only [aStep, put_I hI hf]; rfl) kk
theorem b_putJ {x : Int64} (hi : aTb M pc = some (.putfield q, ci, k, w)) (hI : isJ a ci k = true) (hf : aFit (aFt ci k) (.long x) = true) (kk : bEx sc h M (pc + 3) ls rest (uJ σ a k x) r) : bEx sc h M pc ls (.long x :: .ref a :: rest) σ r :=
  b_one hi rfl (by unfold gH; simp only [aStep, put_J hI hf]; rfl) kk
theorem b_putM {x : Value} (hi : aTb M pc = some (.putfield q, ci, k, w)) (hI : isM a ci k = true) (hf : aFit (aFt ci k) x = true) (kk : bEx sc h M (pc + 3) ls rest (uR σ a k x) r) : bEx sc h M pc ls (x :: .ref a :: rest) σ r :=
  b_one hi rfl (by unfold gH; simp only [aStep, put_M hI hf]; rfl) kk
theorem b_rdI (hi : aTb M pc = some (.iaload, ci, y, w)) (hA : isA a 0 n = true) (hb : inB x n) (kk : bEx sc h M (pc + 1) ls (.int (σ.1 a x.toNatClampNeg) :: rest) σ r) : bEx sc h M pc ls (.int x :: .ref a :: rest) σ r :=
  b_one hi rfl (by unfold gH; simp only [aStep, aPush, rd_A hA hb]) kk
theorem b_rdC (hi : aTb M pc = some (.caload, ci, y, w)) (hA : isA a 1 n = true) (hb : inB x n) (kk : bEx sc h M (pc + 1) ls (.int (σ.1 a x.toNatClampNeg) :: rest) σ r) : bEx sc h M pc ls (.int x :: .ref a :: rest) σ r :=
  b_one hi rfl (by unfold gH; simp only [aStep, aPush, rd_A hA hb]) kk
theorem b_rdZ (hi : aTb M pc = some (.baload, 2, y, w)) (hA : isA a 2 n = true) (hb : inB x n) (kk : bEx sc h M (pc + 1) ls (.int (σ.1 a x.toNatClampNeg) :: rest) σ r) : bEx sc h M pc ls (.int x :: .ref a :: rest) σ r :=
  b_one hi rfl (by unfold gH; simp only [aStep, aPush, rd_A hA hb]) kk
theorem b_rdL (hi : aTb M pc = some (.laload, ci, y, w)) (hA : isL a n = true) (hb : inB x n) (kk : bEx sc h M (pc + 1) ls (.long (σ.2.1 a x.toNatClampNeg) :: rest) σ r) : bEx sc h M pc ls (.int x :: .ref a :: rest) σ r :=
  b_one hi rfl (by unfold gH; simp only [aStep, aPush, rd_L hA hb]) kk
theorem b_wrI (hi : aTb M pc = some (.iastore, ci, y, w)) (hA : isA a 0 n = true) (hb : inB x n) (kk : bEx sc h M (pc + 1) ls rest (uI σ a x.toNatClampNeg z) r) : bEx sc h M pc ls (.int z :: .int x :: .ref a :: rest) σ r :=
  b_one hi rfl (by unfold gH; simp only [aStep, wr_A hA hb]; rfl) kk
theorem b_wrC (hi : aTb M pc = some (.castore, ci, y, w)) (hA : isA a 1 n = true) (hb : inB x n) (kk : bEx sc h M (pc + 1) ls rest (uI σ a x.toNatClampNeg (vp_nar .char z)) r) : bEx sc h M pc ls (.int z :: .int x :: .ref a :: rest) σ r :=
  b_one hi rfl (by unfold gH; simp only [aStep, wr_A hA hb]; rfl) kk
theorem b_wrZ (hi : aTb M pc = some (.bastore, ci, y, w)) (hA : isA a 2 n = true) (hb : inB x n) (kk : bEx sc h M (pc + 1) ls rest (uI σ a x.toNatClampNeg (vp_nar .boolean z)) r) : bEx sc h M pc ls (.int z :: .int x :: .ref a :: rest) σ r :=
  b_one hi rfl (by unfold gH; simp only [aStep, wr_A hA hb]; rfl) kk
theorem b_wrL {z : Int64} (hi : aTb M pc = some (.lastore, ci, y, w)) (hA : isL a n = true) (hb : inB x n) (kk : bEx sc h M (pc + 1) ls rest (uJ σ a x.toNatClampNeg z) r) : bEx sc h M pc ls (.long z :: .int x :: .ref a :: rest) σ r :=
  b_one hi rfl (by unfold gH; simp only [aStep, wr_L hA hb]; rfl) kk
theorem b_len (hi : aTb M pc = some (.arraylength, ci, y, w)) (hA : isA a t n = true) (kk : bEx sc h M (pc + 1) ls (.int (Int32.ofNat n) :: rest) σ r) : bEx sc h M pc ls (.ref a :: rest) σ r := by
  obtain ⟨f, h1, h2⟩ := isA_ok hA
  exact b_one hi rfl (by unfold gH; simp only [aStep, arr_A hA]; rw [if_pos (show t < aTyL.length from h2)]) kk
/-! branches -/
theorem b_icT {c : Jvm.ClassFile.Cond} {o : Int} {p : Prop} [Decidable p] (hi : aTb M pc = some (.if_icmp c o, t, y, w)) (hp : aCmp c x z = decide p) (k1 : p → bEx sc h M t ls rest σ r1) (k2 : ¬ p → bEx sc h M (pc + 3) ls rest σ r2) : bEx sc h M pc ls (.int z :: .int x :: rest) σ (if p then r1 else r2) := by
  by_cases hc : p
  · rw [if_pos hc]
    exact b_one hi rfl (by simp [aStep, aBr, hp, hc]) (k1 hc)
  · rw [if_neg hc]
    exact b_one hi rfl (by simp [aStep, aBr, hp, hc]) (k2 hc)
theorem b_icF {c : Jvm.ClassFile.Cond} {o : Int} {p : Prop} [Decidable p] (hi : aTb M pc = some (.if_icmp c o, t, y, w)) (hp : aCmp c x z = !decide p) (k1 : p → bEx sc h M (pc + 3) ls rest σ r1) (k2 : ¬ p → bEx sc h M t ls rest σ r2) : bEx sc h M pc ls (.int z :: .int x :: rest) σ (if p then r1 else r2) := by
  by_cases hc : p
  · rw [if_pos hc]
    exact b_one hi rfl (by simp [aStep, aBr, hp, hc]) (k1 hc)
  · rw [if_neg hc]
    exact b_one hi rfl (by simp [aStep, aBr, hp, hc]) (k2 hc)
theorem b_izT {c : Jvm.ClassFile.Cond} {o : Int} {p : Prop} [Decidable p] (hi : aTb M pc = some (.ifCond c o, t, y, w)) (hp : aCmp c x 0 = decide p) (k1 : p → bEx sc h M t ls rest σ r1) (k2 : ¬ p → bEx sc h M (pc + 3) ls rest σ r2) : bEx sc h M pc ls (.int x :: rest) σ (if p then r1 else r2) := by
  by_cases hc : p
  · rw [if_pos hc]
    exact b_one hi rfl (by simp [aStep, aBr, hp, hc]) (k1 hc)
  · rw [if_neg hc]
    exact b_one hi rfl (by simp [aStep, aBr, hp, hc]) (k2 hc)
theorem b_izF {c : Jvm.ClassFile.Cond} {o : Int} {p : Prop} [Decidable p] (hi : aTb M pc = some (.ifCond c o, t, y, w)) (hp : aCmp c x 0 = !decide p) (k1 : p → bEx sc h M (pc + 3) ls rest σ r1) (k2 : ¬ p → bEx sc h M t ls rest σ r2) : bEx sc h M pc ls (.int x :: rest) σ (if p then r1 else r2) := by
  by_cases hc : p
  · rw [if_pos hc]
    exact b_one hi rfl (by simp [aStep, aBr, hp, hc]) (k1 hc)
  · rw [if_neg hc]
    exact b_one hi rfl (by simp [aStep, aBr, hp, hc]) (k2 hc)
theorem cmp_eq : aCmp .eq x z = decide (x = z) := by
  simp only [aCmp]
  rw [Bool.eq_iff_iff, beq_iff_eq, decide_eq_true_eq]
theorem cmp_ne : aCmp .ne x z = !decide (x = z) := by
  simp only [aCmp]
  rw [Bool.not_inj_iff, Bool.eq_iff_iff, beq_iff_eq, decide_eq_true_eq]
theorem cmp_lt : aCmp .lt x z = decide (x < z) := rfl
theorem cmp_gt : aCmp .gt x z = decide (z < x) := rfl
theorem cmp_ge : aCmp .ge x z = !decide (x < z) := by
  simp only [aCmp]
  rw [Bool.eq_iff_iff, decide_eq_true_eq, Bool.not_eq_true', decide_eq_false_iff_not, Int32.le_iff_toInt_le, Int32.lt_iff_toInt_lt]
  omega
theorem cmp_le : aCmp .le x z = !decide (z < x) := by
  simp only [aCmp]
  rw [Bool.eq_iff_iff, decide_eq_true_eq, Bool.not_eq_true', decide_eq_false_iff_not, Int32.le_iff_toInt_le, Int32.lt_iff_toInt_lt]
  omega
/-! ends -/
theorem b_ret0 {i : aI} (hi : aTb M pc = some i) (hk : aKd i = 1) (hr : aRt M = none) : bEx sc h M pc ls [] σ (some (.inl none, σ)) := fun o σ' e => by
  cases e
  exact ⟨trivial, fun d hd => ex_ret0 hi hk hr⟩
theorem b_ret {i : aI} {v : Value} {ty : FieldType} (hi : aTb M pc = some i) (hk : aKd i = 2) (hr : aRt M = some ty) (hf : aFit ty v = true) : bEx sc h M pc ls [v] σ (some (.inl (some v), σ)) := fun o σ' e => by
  cases e
  exact ⟨trivial, fun d hd => ex_ret hi hk hr hf⟩
theorem b_thr {i : aI} (hi : aTb M pc = some i) (hk : aKd i = 3) (hx : aHx M = []) (hc : Nat.ble ((st.map (fun v => v.category)).sum) 40 = true) : bEx sc h M pc ls st σ (some (.inr i.2.1, uX σ i.2.1)) := fun o σ' e => by
  cases e
  refine ⟨⟨σ, rfl⟩, fun d hd => ?_⟩
  have k := ex_throw (sc := sc) (d := d) (ls := ls) (A := gH σ) hi hk hx (Nat.le_of_ble_eq_true hc)
  have e1 : 1000 + (gH σ).length = 1361 + (uX σ i.2.1).2.2.2.length := by
    simp only [gH, uX, List.length_append, mkH_len, List.length_cons, List.length_nil]
    omega
  have e2 : gH σ ++ [.inr (i.2.1, [])] = gH (uX σ i.2.1) := by
    simp only [gH, List.append_assoc]
    rfl
  rw [e1, e2] at k
  exact k
/-! calls -/
def cA (r : Rs) (kk : Option Value → St → Rs) : Rs := match r with
  | some (.inl v, σ) => kk v σ
  | some (.inr c, σ) => some (.inr c, σ)
  | none => none
def cI (r : Rs) (kk : Int32 → St → Rs) : Rs := match r with
  | some (.inl (some (.int x)), σ) => kk x σ
  | some (.inr c, σ) => some (.inr c, σ)
  | _ => none
def cV (r : Rs) (kk : St → Rs) : Rs := match r with
  | some (.inl none, σ) => kk σ
  | some (.inr c, σ) => some (.inr c, σ)
  | _ => none
def cJ (r : Rs) (kk : Int64 → St → Rs) : Rs := match r with
  | some (.inl (some (.long x)), σ) => kk x σ
  | some (.inr c, σ) => some (.inr c, σ)
  | _ => none
def cR (r : Rs) (kk : Nat → St → Rs) : Rs := match r with
  | some (.inl (some (.ref x)), σ) => kk x σ
  | some (.inr c, σ) => some (.inr c, σ)
  | _ => none
def ckC (M pc M' n : Nat) : Bool := match aTb M pc with
  | some i => aKd i == 4 && i.2.1 == M' && decide (2 ≤ M') && i.2.2.1 == n && (aHd M).isEmpty
  | none => false
theorem b_call (M' n : Nat) (vs : List Value) {h' : Nat} {le : aL} {kk : Option Value → St → Rs} (hC : ckC M pc M' n = true) (hc : Nat.ble ((st.map (fun v => v.category)).sum) 40 = true) (hst : st = vs.reverse ++ rest) (hl : vs.length = n) (hg : aGo M' (gH σ) vs = true) (he : aEntry (aMx M') vs = le)
    (hf : bEx sc h' M' 0 le [] σ r) (hh : h' ≤ h) (kc : ∀ v σ', bEx sc (h + 1) M (pc + 3) ls (v.toList ++ rest) σ' (kk v σ')) : bEx sc (h + 1) M pc ls st σ (cA r kk) := by
  intro o σ' e
  unfold ckC at hC
  split at hC
  · rename_i i hi
    simp only [Bool.and_eq_true, beq_iff_eq, decide_eq_true_eq, List.isEmpty_iff] at hC
    obtain ⟨⟨⟨⟨hk, hM⟩, h2⟩, hn⟩, hH⟩ := hC
    subst hM
    have hc' := Nat.le_of_ble_eq_true hc
    cases hr : r with
    | none => rw [hr] at e; cases e
    | some q =>
      obtain ⟨o1, σ1⟩ := q
      rw [hr] at e
      obtain ⟨f0, f1⟩ := hf o1 σ1 hr
      cases o1 with
      | inl v =>
        refine ⟨(kc v σ1 o σ' e).1, fun d hd => ?_⟩
        obtain ⟨d, rfl⟩ : ∃ d', d = d' + 1 := ⟨d - 1, by omega⟩
        have f2 := f1 d (by omega)
        rw [← he] at f2
        exact ex_call hi hk (by omega) (by omega) hc' hst (by rw [hl, hn]) hg f2 ((kc v σ1 o σ' e).2 (d + 1) hd)
      | inr c =>
        simp only [cA, Option.some.injEq, Prod.mk.injEq] at e
        obtain ⟨rfl, rfl⟩ := e
        refine ⟨f0, fun d hd => ?_⟩
        obtain ⟨d, rfl⟩ : ∃ d', d = d' + 1 := ⟨d - 1, by omega⟩
        have f2 := f1 d (by omega)
        rw [← he] at f2
        exact ex_callT hi hk (by omega) (by omega) hc' hst (by rw [hl, hn]) hg f2 hH
  · cases hC
theorem go_S {M : Nat} {vs : List Value} (hl : Nat.ble (aArgs vs).length (aMx M) = true) (hc : aIc M = none) : aGo M (gH σ) vs = true := by
  unfold aGo
  rw [hc, decide_eq_true (Nat.le_of_ble_eq_true hl)]
  rfl
theorem cl_O (ho : isO a ci = true) : aCl (gH σ) (.ref a) = some ci := by
  unfold gH
  obtain ⟨vs, h1⟩ := isO_ok ho
  obtain ⟨g1, -, -⟩ := e3_lt h1
  unfold aCl
  dsimp only
  rw [if_neg (show ¬ a < 1000 by omega), mkH_get h1]
  rfl
theorem go_O {M : Nat} {vs : List Value} (hl : Nat.ble (aArgs (.ref a :: vs)).length (aMx M) = true) (hc : aIc M = some ci) (ho : isO a ci = true) : aGo M (gH σ) (.ref a :: vs) = true := by
  unfold aGo
  rw [hc, decide_eq_true (Nat.le_of_ble_eq_true hl)]
  dsimp only
  rw [cl_O ho]
  simp
theorem cI_eq {kk : Int32 → St → Rs} : cI r kk = cA r (fun v σ => match v with | some (.int x) => kk x σ | _ => none) := by
  rcases r with _ | ⟨o, τ⟩
  · rfl
  · cases o with
    | inr c => rfl
    | inl v =>
      cases v with
      | none => rfl
      | some v => cases v <;> rfl
theorem cJ_eq {kk : Int64 → St → Rs} : cJ r kk = cA r (fun v σ => match v with | some (.long x) => kk x σ | _ => none) := by
  rcases r with _ | ⟨o, τ⟩
  · rfl
  · cases o with
    | inr c => rfl
    | inl v =>
      cases v with
      | none => rfl
      | some v => cases v <;> rfl
theorem cR_eq {kk : Nat → St → Rs} : cR r kk = cA r (fun v σ => match v with | some (.ref x) => kk x σ | _ => none) := by
  rcases r with _ | ⟨o, τ⟩
  · rfl
  · cases o with
    | inr c => rfl
    | inl v =>
      cases v with
      | none => rfl
      | some v => cases v <;> rfl
theorem cV_eq {kk : St → Rs} : cV r kk = cA r (fun v σ => match v with | none => kk σ | _ => none) := by
  rcases r with _ | ⟨o, τ⟩
  · rfl
  · cases o with
    | inr c => rfl
    | inl v => cases v <;> rfl
theorem b_callI (M' n : Nat) (vs : List Value) {h' : Nat} {le : aL} {kk : Int32 → St → Rs} (hC : ckC M pc M' n = true) (hc : Nat.ble ((st.map (fun v => v.category)).sum) 40 = true) (hst : st = vs.reverse ++ rest) (hl : vs.length = n) (hg : aGo M' (gH σ) vs = true) (he : aEntry (aMx M') vs = le)
    (hf : bEx sc h' M' 0 le [] σ r) (hh : h' ≤ h) (kc : ∀ x σ', bEx sc (h + 1) M (pc + 3) ls (.int x :: rest) σ' (kk x σ')) : bEx sc (h + 1) M pc ls st σ (cI r kk) := by
  rw [cI_eq]
  refine b_call M' n vs hC hc hst hl hg he hf hh (fun v σ' => ?_)
  cases v with
  | none => exact b_none
  | some v => cases v <;> first | exact kc _ σ' | exact b_none
theorem b_callJ (M' n : Nat) (vs : List Value) {h' : Nat} {le : aL} {kk : Int64 → St → Rs} (hC : ckC M pc M' n = true) (hc : Nat.ble ((st.map (fun v => v.category)).sum) 40 = true) (hst : st = vs.reverse ++ rest) (hl : vs.length = n) (hg : aGo M' (gH σ) vs = true) (he : aEntry (aMx M') vs = le)
    (hf : bEx sc h' M' 0 le [] σ r) (hh : h' ≤ h) (kc : ∀ x σ', bEx sc (h + 1) M (pc + 3) ls (.long x :: rest) σ' (kk x σ')) : bEx sc (h + 1) M pc ls st σ (cJ r kk) := by
  rw [cJ_eq]
  refine b_call M' n vs hC hc hst hl hg he hf hh (fun v σ' => ?_)
  cases v with
  | none => exact b_none
  | some v => cases v <;> first | exact kc _ σ' | exact b_none
theorem b_callR (M' n : Nat) (vs : List Value) {h' : Nat} {le : aL} {kk : Nat → St → Rs} (hC : ckC M pc M' n = true) (hc : Nat.ble ((st.map (fun v => v.category)).sum) 40 = true) (hst : st = vs.reverse ++ rest) (hl : vs.length = n) (hg : aGo M' (gH σ) vs = true) (he : aEntry (aMx M') vs = le)
    (hf : bEx sc h' M' 0 le [] σ r) (hh : h' ≤ h) (kc : ∀ x σ', bEx sc (h + 1) M (pc + 3) ls (.ref x :: rest) σ' (kk x σ')) : bEx sc (h + 1) M pc ls st σ (cR r kk) := by
  rw [cR_eq]
  refine b_call M' n vs hC hc hst hl hg he hf hh (fun v σ' => ?_)
  cases v with
  | none => exact b_none
  | some v => cases v <;> first | exact kc _ σ' | exact b_none
theorem b_callV (M' n : Nat) (vs : List Value) {h' : Nat} {le : aL} {kk : St → Rs} (hC : ckC M pc M' n = true) (hc : Nat.ble ((st.map (fun v => v.category)).sum) 40 = true) (hst : st = vs.reverse ++ rest) (hl : vs.length = n) (hg : aGo M' (gH σ) vs = true) (he : aEntry (aMx M') vs = le)
    (hf : bEx sc h' M' 0 le [] σ r) (hh : h' ≤ h) (kc : ∀ σ', bEx sc (h + 1) M (pc + 3) ls rest σ' (kk σ')) : bEx sc (h + 1) M pc ls st σ (cV r kk) := by
  rw [cV_eq]
  refine b_call M' n vs hC hc hst hl hg he hf hh (fun v σ' => ?_)
  cases v with
  | none => exact kc σ'
  | some v => exact b_none
/-! rules that give what was read, or the new store, a name -/
def lt {α : Type} (x : α) (kk : α → Rs) : Rs := kk x
theorem b_let {α : Type} (v : α) {L : α → aL} {S : α → List Value} {kk : α → Rs} (kc : ∀ c, bEx sc h M pc (L c) (S c) σ (kk c)) : bEx sc h M pc (L v) (S v) σ (lt v kk) := kc v
theorem b_gI {kk : Int32 → Rs} (hi : aTb M pc = some (.getfield q, ci, k, w)) (hI : isI a ci k = true) (kc : ∀ c, bEx sc h M (pc + 3) ls (.int c :: rest) σ (kk c)) : bEx sc h M pc ls (.ref a :: rest) σ (lt (σ.1 a k) kk) := b_getI hi hI (kc _)
theorem b_gJ {kk : Int64 → Rs} (hi : aTb M pc = some (.getfield q, ci, k, w)) (hI : isJ a ci k = true) (kc : ∀ c, bEx sc h M (pc + 3) ls (.long c :: rest) σ (kk c)) : bEx sc h M pc ls (.ref a :: rest) σ (lt (σ.2.1 a k) kk) := b_getJ hi hI (kc _)
def mR (v : Value) (k1 : Nat → Rs) (k2 : Rs) : Rs := match v with
  | .ref a => k1 a
  | .null => k2
  | _ => none
theorem b_gM {kk : Nat → Rs} (hi : aTb M pc = some (.getfield q, ci, k, w)) (hI : isM a ci k = true) (kc : ∀ c, bEx sc h M (pc + 3) ls (.ref c :: rest) σ (kk c)) (kd : bEx sc h M (pc + 3) ls (.null :: rest) σ r) : bEx sc h M pc ls (.ref a :: rest) σ (mR (σ.2.2.1 a k) kk r) := by
  refine b_getM hi hI ?_
  cases σ.2.2.1 a k <;> first | exact kc _ | exact kd | exact b_none
theorem b_pI {kk : St → Rs} (hi : aTb M pc = some (.putfield q, ci, k, w)) (hI : isI a ci k = true) (hf : aFit (aFt ci k) (.int x) = true) (kc : ∀ τ, bEx sc h M (pc + 3) ls rest τ (kk τ)) : bEx sc h M pc ls (.int x :: .ref a :: rest) σ (lt (uI σ a k x) kk) := b_putI hi hI hf (kc _)
theorem b_pJ {x : Int64} {kk : St → Rs} (hi : aTb M pc = some (.putfield q, ci, k, w)) (hI : isJ a ci k = true) (hf : aFit (aFt ci k) (.long x) = true) (kc : ∀ τ, bEx sc h M (pc + 3) ls rest τ (kk τ)) : bEx sc h M pc ls (.long x :: .ref a :: rest) σ (lt (uJ σ a k x) kk) := b_putJ hi hI hf (kc _)
theorem b_pM {x : Value} {kk : St → Rs} (hi : aTb M pc = some (.putfield q, ci, k, w)) (hI : isM a ci k = true) (hf : aFit (aFt ci k) x = true) (kc : ∀ τ, bEx sc h M (pc + 3) ls rest τ (kk τ)) : bEx sc h M pc ls (x :: .ref a :: rest) σ (lt (uR σ a k x) kk) := b_putM hi hI hf (kc _)
theorem b_aI {kk : Int32 → Rs} (hi : aTb M pc = some (.iaload, ci, y, w)) (hA : isA a 0 n = true) (hb : inB x n) (kc : ∀ c, bEx sc h M (pc + 1) ls (.int c :: rest) σ (kk c)) : bEx sc h M pc ls (.int x :: .ref a :: rest) σ (lt (σ.1 a x.toNatClampNeg) kk) := b_rdI hi hA hb (kc _)
theorem b_aC {kk : Int32 → Rs} (hi : aTb M pc = some (.caload, ci, y, w)) (hA : isA a 1 n = true) (hb : inB x n) (kc : ∀ c, bEx sc h M (pc + 1) ls (.int c :: rest) σ (kk c)) : bEx sc h M pc ls (.int x :: .ref a :: rest) σ (lt (σ.1 a x.toNatClampNeg) kk) := b_rdC hi hA hb (kc _)
theorem b_aZ {kk : Int32 → Rs} (hi : aTb M pc = some (.baload, 2, y, w)) (hA : isA a 2 n = true) (hb : inB x n) (kc : ∀ c, bEx sc h M (pc + 1) ls (.int c :: rest) σ (kk c)) : bEx sc h M pc ls (.int x :: .ref a :: rest) σ (lt (σ.1 a x.toNatClampNeg) kk) := b_rdZ hi hA hb (kc _)
theorem b_aL {kk : Int64 → Rs} (hi : aTb M pc = some (.laload, ci, y, w)) (hA : isL a n = true) (hb : inB x n) (kc : ∀ c, bEx sc h M (pc + 1) ls (.long c :: rest) σ (kk c)) : bEx sc h M pc ls (.int x :: .ref a :: rest) σ (lt (σ.2.1 a x.toNatClampNeg) kk) := b_rdL hi hA hb (kc _)
theorem b_sI {kk : St → Rs} (hi : aTb M pc = some (.iastore, ci, y, w)) (hA : isA a 0 n = true) (hb : inB x n) (kc : ∀ τ, bEx sc h M (pc + 1) ls rest τ (kk τ)) : bEx sc h M pc ls (.int z :: .int x :: .ref a :: rest) σ (lt (uI σ a x.toNatClampNeg z) kk) := b_wrI hi hA hb (kc _)
theorem b_sC {kk : St → Rs} (hi : aTb M pc = some (.castore, ci, y, w)) (hA : isA a 1 n = true) (hb : inB x n) (kc : ∀ τ, bEx sc h M (pc + 1) ls rest τ (kk τ)) : bEx sc h M pc ls (.int z :: .int x :: .ref a :: rest) σ (lt (uI σ a x.toNatClampNeg (vp_nar .char z)) kk) := b_wrC hi hA hb (kc _)
theorem b_sZ {kk : St → Rs} (hi : aTb M pc = some (.bastore, ci, y, w)) (hA : isA a 2 n = true) (hb : inB x n) (kc : ∀ τ, bEx sc h M (pc + 1) ls rest τ (kk τ)) : bEx sc h M pc ls (.int z :: .int x :: .ref a :: rest) σ (lt (uI σ a x.toNatClampNeg (vp_nar .boolean z)) kk) := b_wrZ hi hA hb (kc _)
theorem b_sL {z : Int64} {kk : St → Rs} (hi : aTb M pc = some (.lastore, ci, y, w)) (hA : isL a n = true) (hb : inB x n) (kc : ∀ τ, bEx sc h M (pc + 1) ls rest τ (kk τ)) : bEx sc h M pc ls (.long z :: .int x :: .ref a :: rest) σ (lt (uJ σ a x.toNatClampNeg z) kk) := b_wrL hi hA hb (kc _)
theorem fit_Z (hz : x = 0 ∨ x = 1) : aFit .boolean (.int x) = true := by
  rcases hz with rfl | rfl <;> decide
abbrev oI (x : Int32) (σ : St) : Rs := some (.inl (some (.int x)), σ)
abbrev oJ (x : Int64) (σ : St) : Rs := some (.inl (some (.long x)), σ)
abbrev oV (σ : St) : Rs := some (.inl none, σ)
abbrev oT (ci : Nat) (σ : St) : Rs := some (.inr ci, uX σ ci)
/-! the script -/
theorem b_scL (hL : ¬ sc.1 = 99999) (hi : aTb M pc = some (.arraylength, ci, y, w)) (kk : bEx sc h M (pc + 1) ls (.int (Int32.ofNat sc.1) :: rest) σ r) : bEx sc h M pc ls (.ref 0 :: rest) σ r :=
  b_one hi rfl (by simp only [aStep, aArr, if_true, if_neg hL]; rfl) kk
theorem b_scI {kk : Int32 → Rs} (hL : ¬ sc.1 = 99999) (hi : aTb M pc = some (.iaload, ci, y, w)) (hb : inB x sc.1) (kc : ∀ c, bEx sc h M (pc + 1) ls (.int c :: rest) σ (kk c)) : bEx sc h M pc ls (.int x :: .ref 0 :: rest) σ (lt (sc.2.1 x.toNatClampNeg) kk) :=
  b_one hi rfl (by simp only [aStep, aRdI, aArr, if_true, if_neg hL]; rw [if_pos ⟨trivial, hb⟩]; rfl) (kc _)
theorem b_ite {p : Prop} [Decidable p] (k1 : p → bEx sc h M pc ls st σ r1) (k2 : ¬ p → bEx sc h M pc ls st σ r2) : bEx sc h M pc ls st σ (if p then r1 else r2) := by
  by_cases hp : p
  · rw [if_pos hp]; exact k1 hp
  · rw [if_neg hp]; exact k2 hp
theorem b_sw {dl lo hi' : Int} {offs : Array Int} (hi : aTb M pc = some (.tableswitch dl lo hi' offs, t, y, w)) (hs : aSw pc dl lo hi' offs x = some pc') (kk : bEx sc h M pc' ls rest σ r) : bEx sc h M pc ls (.int x :: rest) σ r :=
  b_one hi rfl (by simp only [aStep, hs]) kk
theorem swE {dl lo hi' : Int} {offs : Array Int} (e : x = z) (hs : aSw pc dl lo hi' offs z = some pc') : aSw pc dl lo hi' offs x = some pc' := by rw [e]; exact hs
theorem swD {dl lo hi' : Int} {offs : Array Int} (hx : x.toInt < lo ∨ hi' < x.toInt) (hp : aTgt pc dl = pc') : aSw pc dl lo hi' offs x = some pc' := by
  unfold aSw
  rw [if_pos hx, hp]
theorem swN (e : ¬ x = z) : x.toInt ≠ z.toInt := fun h => e (Int32.toInt_inj.mp h)
/-! copying a stretch of an array -/
abbrev cpB (sp dp z : Int32) (m n : Nat) : Prop := ¬ (sp < 0 ∨ dp < 0 ∨ z < 0) ∧ sp.toNatClampNeg + z.toNatClampNeg ≤ m ∧ dp.toNatClampNeg + z.toNatClampNeg ≤ n
def ckCp (M pc : Nat) : Bool := match aTb M pc with
  | some i => aKd i == 4 && i.2.1 == 1
  | none => false
theorem b_cp {m : Nat} {sp dp : Int32} {kk : St → Rs} (hC : ckCp M pc = true) (hc : Nat.ble (((.int z :: .int dp :: .ref a :: .int sp :: .ref b :: rest : List Value).map (fun v => v.category)).sum) 40 = true) (h0 : isA b t m = true) (h1 : isA a t n = true) (ht : t = 0 ∨ t = 1) (hb : cpB sp dp z m n)
    (kc : ∀ τ, bEx sc (h + 1) M (pc + 3) ls rest τ (kk τ)) : bEx sc (h + 1) M pc ls (.int z :: .int dp :: .ref a :: .int sp :: .ref b :: rest) σ (lt (uF σ a (va_cpy (σ.1 b) (σ.1 a) sp.toNatClampNeg dp.toNatClampNeg z.toNatClampNeg)) kk) := by
  unfold ckCp at hC
  split at hC
  · rename_i i hi
    simp only [Bool.and_eq_true, beq_iff_eq] at hC
    obtain ⟨hk, hM⟩ := hC
    intro o σ' e
    have k := kc _ o σ' e
    refine ⟨k.1, fun d hd => ?_⟩
    obtain ⟨d, rfl⟩ : ∃ d', d = d' + 1 := ⟨d - 1, by omega⟩
    obtain ⟨n9, k9⟩ := k.2 (d + 1) hd
    refine ⟨n9 + 1, ?_⟩
    rw [aRun_4 hi hk]
    unfold aCallB
    rw [if_pos (Nat.le_of_ble_eq_true hc), if_neg (by rw [hM]; decide), if_pos hM]
    dsimp only
    unfold gH
    rw [cp_A h0 h1 ht hb]
    exact k9
  · cases hC
/-! references -/
theorem b_acT {o : Int} (hi : aTb M pc = some (.if_acmp .eq o, t, y, w)) (hp : aCp a b = true) (k1 : a = b → bEx sc h M t ls rest σ r1) (k2 : ¬ a = b → bEx sc h M (pc + 3) ls rest σ r2) : bEx sc h M pc ls (.ref b :: .ref a :: rest) σ (if a = b then r1 else r2) := by
  by_cases hc : a = b
  · rw [if_pos hc]
    refine b_one hi rfl ?_ (k1 hc)
    simp only [aStep]
    rw [if_pos hp]
    simp [aBr, hc]
  · rw [if_neg hc]
    refine b_one hi rfl ?_ (k2 hc)
    simp only [aStep]
    rw [if_pos hp]
    simp [aBr, hc]
theorem b_acF {o : Int} (hi : aTb M pc = some (.if_acmp .ne o, t, y, w)) (hp : aCp a b = true) (k1 : a = b → bEx sc h M (pc + 3) ls rest σ r1) (k2 : ¬ a = b → bEx sc h M t ls rest σ r2) : bEx sc h M pc ls (.ref b :: .ref a :: rest) σ (if a = b then r1 else r2) := by
  by_cases hc : a = b
  · rw [if_pos hc]
    refine b_one hi rfl ?_ (k1 hc)
    simp only [aStep]
    rw [if_pos hp]
    simp [aBr, hc]
  · rw [if_neg hc]
    refine b_one hi rfl ?_ (k2 hc)
    simp only [aStep]
    rw [if_pos hp]
    simp [aBr, hc]
theorem b_cV (v : Value) {L : Value → aL} {kk : Nat → Rs} (kc : ∀ c, bEx sc h M pc (L (.ref c)) st σ (kk c)) (kd : bEx sc h M pc (L .null) st σ r) : bEx sc h M pc (L v) st σ (mR v kk r) := by
  cases v <;> first | exact kc _ | exact kd | exact b_none
/-- constants of Axis, constant Strings -/
def isX (a : Nat) : Bool := decide (100 ≤ a) && decide (a < 112)
def isS (a : Nat) : Bool := decide (1 ≤ a) && decide (a ≤ aSc0)
theorem fit_Or (s : String) (a : Nat) : aFit (.object s) (.ref a) = true := by simp [aFit, narrow, fits]
theorem fit_On (s : String) : aFit (.object s) .null = true := by simp [aFit, narrow, fits]
theorem b_gXI {kk : Int32 → Rs} (hi : aTb M pc = some (.getfield q, 20, 1, w)) (hx : isX a = true) (kc : ∀ c, bEx sc h M (pc + 3) ls (.int c :: rest) σ (kk c)) : bEx sc h M pc ls (.ref a :: rest) σ (lt (xAxB.getD (a - 100) 0) kk) := by
  simp only [isX, Bool.and_eq_true, decide_eq_true_eq] at hx
  refine b_one hi rfl ?_ (kc _)
  simp only [aStep, aPush, aFld, xFd]
  rw [if_pos (by omega), if_neg (by omega), if_pos ⟨hx.1, hx.2, trivial⟩]
theorem b_gXR {kk : Nat → Rs} (hi : aTb M pc = some (.getfield q, 20, 0, w)) (hx : isX a = true) (kc : ∀ c, bEx sc h M (pc + 3) ls (.ref c :: rest) σ (kk c)) : bEx sc h M pc ls (.ref a :: rest) σ (lt (xAxW.getD (a - 100) 0) kk) := by
  simp only [isX, Bool.and_eq_true, decide_eq_true_eq] at hx
  refine b_one hi rfl ?_ (kc _)
  simp only [aStep, aPush, aFld, xFd]
  rw [if_pos (by omega), if_neg (by omega), if_pos ⟨hx.1, hx.2, trivial⟩]
theorem b_l112 (hi : aTb M pc = some (.arraylength, ci, y, w)) (kk : bEx sc h M (pc + 1) ls (.int 12 :: rest) σ r) : bEx sc h M pc ls (.ref 112 :: rest) σ r := b_one hi rfl rfl kk
theorem b_a113 {kk : Int32 → Rs} (hi : aTb M pc = some (.iaload, ci, y, w)) (hb : inB x 12) (kc : ∀ c, bEx sc h M (pc + 1) ls (.int c :: rest) σ (kk c)) : bEx sc h M pc ls (.int x :: .ref 113 :: rest) σ (lt (Int32.ofNat (x.toNatClampNeg + 1)) kk) := by
  refine b_one hi rfl ?_ (kc _)
  have e1 : aArr sc (gH σ) 113 = some (0, 12, .inl (fun j => Int32.ofNat (j + 1))) := rfl
  simp only [aStep, aPush, aRdI, e1]
  rw [if_pos ⟨trivial, hb⟩]
theorem b_a112 {kk : Nat → Rs} (hi : aTb M pc = some (.aaload, ci, y, w)) (hb : inB x 12) (kc : ∀ c, bEx sc h M (pc + 1) ls (.ref c :: rest) σ (kk c)) : bEx sc h M pc ls (.int x :: .ref 112 :: rest) σ (lt (100 + 1 * x.toNatClampNeg) kk) := by
  refine b_one hi rfl ?_ (kc _)
  have e1 : aArr sc (gH σ) 112 = some (7, 12, .inr (.inr (.inr (.inr (fun j => if j < 12 then some (100 + j) else none))))) := rfl
  simp only [aStep, aPush, aRdR, e1]
  rw [if_pos ⟨by decide, by decide, Or.inl (by decide), hb⟩]
  have h2 : x.toNatClampNeg < 12 := by omega
  simp [h2, va_rf]
/-- an array of references, the j-th of them base + mul * j -/
def isRA (a t n ba mu : Nat) : Bool := match e3 a with
  | some (.inl (t', n', .inr (.inr (.inr (.inr f))))) => t' == t && n' == n && (List.range n).all (fun j => f j == some (ba + mu * j))
  | _ => false
theorem rd_R {ba mu : Nat} (hA : isRA a t n ba mu = true) (ht : 5 ≤ t ∧ t < 7) (hb : inB x n) : aRdR sc (gH σ) a x = some (.ref (ba + mu * x.toNatClampNeg)) := by
  unfold isRA at hA
  split at hA
  · rename_i t' n' f hq
    simp only [Bool.and_eq_true, beq_iff_eq, List.all_eq_true, List.mem_range] at hA
    obtain ⟨⟨rfl, rfl⟩, h3⟩ := hA
    obtain ⟨g1, -, -⟩ := e3_lt hq
    unfold aRdR aArr gH
    rw [if_neg (by omega), if_neg (by omega), mkH_get hq]
    simp only [ceW]
    rw [if_pos ⟨ht.1, by omega, Or.inr ht.2, hb⟩, h3 _ (by omega)]
    rfl
  · cases hA
theorem b_a1031 {kk : Nat → Rs} (hi : aTb M pc = some (.aaload, ci, y, w)) (hb : inB x 80) (kc : ∀ c, bEx sc h M (pc + 1) ls (.ref c :: rest) σ (kk c)) : bEx sc h M pc ls (.int x :: .ref 1031 :: rest) σ (lt (1033 + 2 * x.toNatClampNeg) kk) :=
  b_one hi rfl (by simp only [aStep, aPush, rd_R (sc := sc) (σ := σ) (a := 1031) (t := 5) (n := 80) (ba := 1033) (mu := 2) (by decide +kernel) (by decide) hb]) (kc _)
theorem b_a1032 {kk : Nat → Rs} (hi : aTb M pc = some (.aaload, ci, y, w)) (hb : inB x 120) (kc : ∀ c, bEx sc h M (pc + 1) ls (.ref c :: rest) σ (kk c)) : bEx sc h M pc ls (.int x :: .ref 1032 :: rest) σ (lt (1193 + 1 * x.toNatClampNeg) kk) :=
  b_one hi rfl (by simp only [aStep, aPush, rd_R (sc := sc) (σ := σ) (a := 1032) (t := 6) (n := 120) (ba := 1193) (mu := 1) (by decide +kernel) (by decide) hb]) (kc _)
/-! calls whose exceptions are caught here -/
def cHI (r : Rs) (kk : Int32 → St → Rs) (kh : Nat → St → Rs) : Rs := match r with
  | some (.inl (some (.int x)), σ) => kk x σ
  | some (.inr c, σ) => kh c σ
  | _ => none
def hdP (sc : aSc) (h M pc : Nat) (ls : aL) (hs : List (Nat × Nat × Nat × Nat)) (kh : Nat → St → Rs) : Prop := ∀ (e z : Nat) (τ : St), (∀ hp, aHdl hs pc e = some hp → bEx sc h M hp ls [.ref z] τ (kh e τ)) ∧ (aHdl hs pc e = none → kh e τ = none)
theorem hd_nil : hdP sc h M pc ls [] (fun _ _ => none) := fun e z τ => ⟨fun hp hh => by simp [aHdl] at hh, fun _ => rfl⟩
theorem hd_cons {x1 x2 hp c : Nat} {hs : List (Nat × Nat × Nat × Nat)} {k1 : St → Rs} {k2 : Nat → St → Rs} (hx : x1 ≤ pc ∧ pc < x2) (g1 : ∀ z τ, bEx sc h M hp ls [.ref z] τ (k1 τ)) (g2 : hdP sc h M pc ls hs k2) : hdP sc h M pc ls ((x1, x2, hp, c) :: hs) (fun e τ => if e = c then k1 τ else k2 e τ) := by
  intro e z τ
  unfold aHdl
  by_cases he : e = c
  · rw [if_pos ⟨hx.1, hx.2, he⟩]
    refine ⟨fun hp' hh => ?_, fun hh => by cases hh⟩
    cases hh
    simp only [if_pos he]
    exact g1 z τ
  · rw [if_neg (fun hh => he hh.2.2)]
    simp only [if_neg he]
    exact g2 e z τ
def ckCH (M pc M' n : Nat) : Bool := match aTb M pc with
  | some i => aKd i == 4 && i.2.1 == M' && decide (2 ≤ M') && i.2.2.1 == n
  | none => false
theorem b_callHI (M' n : Nat) (vs : List Value) {h' : Nat} {le : aL} {kk : Int32 → St → Rs} {kh : Nat → St → Rs} {e1 : Nat × Nat × Nat × Nat} {es : List (Nat × Nat × Nat × Nat)} (hC : ckCH M pc M' n = true) (hH : aHd M = e1 :: es) (hc : Nat.ble ((st.map (fun v => v.category)).sum) 40 = true) (hst : st = vs.reverse ++ rest) (hl : vs.length = n) (hg : aGo M' (gH σ) vs = true) (he : aEntry (aMx M') vs = le)
    (hf : bEx sc h' M' 0 le [] σ r) (hh : h' ≤ h) (kc : ∀ x σ', bEx sc (h + 1) M (pc + 3) ls (.int x :: rest) σ' (kk x σ')) (kd : hdP sc (h + 1) M pc ls (e1 :: es) kh) : bEx sc (h + 1) M pc ls st σ (cHI r kk kh) := by
  intro o σ' e
  unfold ckCH at hC
  split at hC
  · rename_i i hi
    simp only [Bool.and_eq_true, beq_iff_eq, decide_eq_true_eq] at hC
    obtain ⟨⟨⟨hk, hM⟩, h2⟩, hn⟩ := hC
    subst hM
    have hc' := Nat.le_of_ble_eq_true hc
    cases hr : r with
    | none => rw [hr] at e; cases e
    | some q =>
      obtain ⟨o1, σ1⟩ := q
      rw [hr] at e
      obtain ⟨f0, f1⟩ := hf o1 σ1 hr
      cases o1 with
      | inl v =>
        cases v with
        | none => cases e
        | some v =>
          cases v with
          | int x =>
            refine ⟨(kc x σ1 o σ' e).1, fun d hd => ?_⟩
            obtain ⟨d, rfl⟩ : ∃ d', d = d' + 1 := ⟨d - 1, by omega⟩
            have f2 := f1 d (by omega)
            rw [← he] at f2
            exact ex_call hi hk (by omega) (by omega) hc' hst (by rw [hl, hn]) hg f2 ((kc x σ1 o σ' e).2 (d + 1) hd)
          | _ => cases e
      | inr c =>
        obtain ⟨τ, rfl⟩ := f0
        have k9 := kd c (1361 + (uX τ c).2.2.2.length) (uX τ c)
        cases hq : aHdl (e1 :: es) pc c with
        | none =>
          have k8 := k9.2 hq
          simp only [cHI] at e
          rw [k8] at e
          cases e
        | some hp =>
          have k8 := k9.1 hp hq o σ' e
          refine ⟨k8.1, fun d hd => ?_⟩
          obtain ⟨d, rfl⟩ : ∃ d', d = d' + 1 := ⟨d - 1, by omega⟩
          have f2 := f1 d (by omega)
          rw [← he] at f2
          have hcl : aCl (gH (uX τ c)) (.ref (1361 + (uX τ c).2.2.2.length)) = some c := by
            have hl9 : (uX τ c).2.2.2.length = τ.2.2.2.length + 1 := by simp [uX]
            have e2 : (gH (uX τ c))[361 + (uX τ c).2.2.2.length]? = some (.inr (c, [])) := by
              unfold gH
              rw [List.getElem?_append_right (by rw [mkH_len]; omega), mkH_len, show 361 + (uX τ c).2.2.2.length - 362 = τ.2.2.2.length by omega]
              simp [uX]
            unfold aCl
            dsimp only
            rw [if_neg (show ¬ 1361 + (uX τ c).2.2.2.length < 1000 by omega), show 1361 + (uX τ c).2.2.2.length - 1000 = 361 + (uX τ c).2.2.2.length by omega, e2]
          exact ex_callC hi hk (by omega) (by omega) hc' hst (by rw [hl, hn]) hg f2 hH hcl hq (k8.2 (d + 1) hd)
  · cases hC
end BEX
