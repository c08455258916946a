/-! what is given of the JDK: Strings that are constants, and the number of a constant of Axis -/
def vOk (sc : aSc) : Prop := sc.2.2 = .null ∨ sc.2.2 = .ref 999
def slen (a : Nat) : Nat := (xBy.getD (a - 1) []).length
def schr (a j : Nat) : Int32 := ((((xBy.getD (a - 1) []).getD j 0) &&& 255 : Int32).toUInt32 % 65536).toInt32
def f248 (_F : Nat) (x0 : Nat) (σ : St) : Rs := oI (Int32.ofNat (slen x0)) σ
def f250 (_F : Nat) (x0 : Nat) (x1 : Int32) (σ : St) : Rs := if inB x1 (slen x0) then oI (schr x0 x1.toNatClampNeg) σ else none
def f255 (_F : Nat) (x0 : Nat) (σ : St) : Rs := oI (Int32.ofNat (x0 - 100)) σ
theorem slen_le (a : Nat) : slen a ≤ 200 := by
  unfold slen
  have h : ∀ l ∈ xBy, l.length ≤ 200 := by decide +kernel
  rw [List.getD_eq_getElem?_getD]
  cases hq : xBy[a - 1]? with
  | none => simp
  | some l => exact h l (List.mem_of_getElem? hq)
section STR
variable {sc : aSc} {h M pc : Nat} {ls : aL} {rest : List Value} {σ : St} {r : Rs} {a q y : Nat} {w : Value} {x : Int32}
theorem isS_ok (hs : isS a = true) : 1 ≤ a ∧ a ≤ 67 := by
  simp only [isS, Bool.and_eq_true, decide_eq_true_eq] at hs
  exact hs
theorem b_gS0 (hi : aTb M pc = some (.getfield q, 21, 0, w)) (hs : isS a = true) (kk : bEx sc h M (pc + 3) ls (.ref (199 + a) :: rest) σ r) : bEx sc h M pc ls (.ref a :: rest) σ r := by
  have h1 := isS_ok hs
  refine b_one hi rfl ?_ kk
  simp only [aStep, aPush, aFld, xFd]
  rw [if_pos (by omega), if_pos ⟨h1.1, h1.2, trivial⟩]
theorem b_gS1 (hi : aTb M pc = some (.getfield q, 21, 1, w)) (hs : isS a = true) (kk : bEx sc h M (pc + 3) ls (.int 0 :: rest) σ r) : bEx sc h M pc ls (.ref a :: rest) σ r := by
  have h1 := isS_ok hs
  refine b_one hi rfl ?_ kk
  simp only [aStep, aPush, aFld, xFd]
  rw [if_pos (by omega), if_pos ⟨h1.1, h1.2, trivial⟩]
theorem arr_S {A : aH} (hs : isS a = true) : aArr sc A (199 + a) = some (4, slen a, .inl (fun j => (xBy.getD (a - 1) []).getD j 0)) := by
  have h1 := isS_ok hs
  unfold aArr xAr
  rw [if_neg (by omega), if_pos (by omega), if_pos (by unfold aSc0; omega), show 199 + a - 200 = a - 1 by omega]
  rfl
theorem b_lS (hi : aTb M pc = some (.arraylength, q, y, w)) (hs : isS a = true) (kk : bEx sc h M (pc + 1) ls (.int (Int32.ofNat (slen a)) :: rest) σ r) : bEx sc h M pc ls (.ref (199 + a) :: rest) σ r := by
  refine b_one hi rfl ?_ kk
  simp only [aStep, arr_S hs]
  rfl
theorem b_aS (hi : aTb M pc = some (.baload, 4, y, w)) (hs : isS a = true) (hb : inB x (slen a)) (kk : bEx sc h M (pc + 1) ls (.int ((xBy.getD (a - 1) []).getD x.toNatClampNeg 0) :: rest) σ r) : bEx sc h M pc ls (.int x :: .ref (199 + a) :: rest) σ r := by
  refine b_one hi rfl ?_ kk
  simp only [aStep, aPush, aRdI, arr_S hs]
  rw [if_pos ⟨trivial, hb⟩]
theorem go_X {M : Nat} {vs : List Value} (hl : Nat.ble (aArgs (.ref a :: vs)).length (aMx M) = true) (hc : aIc M = some 21) (hs : isS a = true) : aGo M (gH σ) (.ref a :: vs) = true := by
  have h1 := isS_ok hs
  unfold aGo
  rw [hc, decide_eq_true (Nat.le_of_ble_eq_true hl)]
  dsimp only
  unfold aCl
  dsimp only
  rw [if_pos (show a < 1000 by omega)]
  unfold xCl
  rw [if_pos ⟨h1.1, h1.2⟩]
  rfl
theorem go_A {M : Nat} {vs : List Value} (hl : Nat.ble (aArgs (.ref a :: vs)).length (aMx M) = true) (hc : aIc M = some 20) (hs : isX a = true) : aGo M (gH σ) (.ref a :: vs) = true := by
  simp only [isX, Bool.and_eq_true, decide_eq_true_eq] at hs
  unfold aGo
  rw [hc, decide_eq_true (Nat.le_of_ble_eq_true hl)]
  dsimp only
  unfold aCl
  dsimp only
  rw [if_pos (show a < 1000 by omega)]
  unfold xCl
  rw [if_neg (by unfold aSc0; omega), if_pos ⟨hs.1, hs.2⟩]
  rfl
end STR
theorem s249 {sc : aSc} (a : Nat) (σ : St) (hs : isS a = true) : bEx sc 0 249 0 [some (.ref a)] [] σ (oI 0 σ) := by
  refine b_gs (q := 38) (y := 0) (w := .int 1) (by decide +kernel) ?_
  refine b_run [(3, .ifCond .eq 10, 13, 0, .null), (6, .aload_n 0, 0, 0, .null)] (pc' := 7) (ls' := [some (.ref a)]) (st' := [.ref a]) (by decide +kernel) rfl ?_
  refine b_gS1 (q := 15) (w := .null) (by decide +kernel) hs ?_
  refine b_run [(10, .goto 4, 14, 0, .null)] (pc' := 14) (ls' := [some (.ref a)]) (st' := [.int 0]) (by decide +kernel) rfl ?_
  exact b_ret (i := (.ireturn, 0, 0, .null)) (by decide +kernel) rfl rfl (by decide +kernel)
theorem s251 {sc : aSc} (a : Nat) (σ : St) (hs : isS a = true) : bEx sc 0 251 0 [some (.ref a)] [] σ (oI 1 σ) := by
  refine b_gs (q := 38) (y := 0) (w := .int 1) (by decide +kernel) ?_
  refine b_run [(3, .ifCond .eq 14, 17, 0, .null), (6, .aload_n 0, 0, 0, .null)] (pc' := 7) (ls' := [some (.ref a)]) (st' := [.ref a]) (by decide +kernel) rfl ?_
  refine b_gS1 (q := 15) (w := .null) (by decide +kernel) hs ?_
  refine b_run [(10, .ifCond .ne 7, 17, 0, .null), (13, .iconst 1, 0, 0, .null), (14, .goto 4, 18, 0, .null)] (pc' := 18) (ls' := [some (.ref a)]) (st' := [.int 1]) (by decide +kernel) rfl ?_
  exact b_ret (i := (.ireturn, 0, 0, .null)) (by decide +kernel) rfl rfl (by decide +kernel)
theorem s248 {sc : aSc} (_hv : vOk sc) (F : Nat) (x0 : Nat) (σ : St) (hx0 : isS x0 = true) : bEx sc 3 248 0 [some (.ref x0)] [] σ (f248 F x0 σ) := by
  refine b_run [(0, .aload_n 0, 0, 0, .null)] (pc' := 1) (ls' := [some (.ref x0)]) (st' := [.ref x0]) (by decide +kernel) rfl ?_
  refine b_gS0 (q := 9) (w := .null) (by decide +kernel) hx0 ?_
  refine b_lS (q := 0) (y := 0) (w := .null) (by decide +kernel) hx0 ?_
  refine b_run [(5, .aload_n 0, 0, 0, .null)] (pc' := 6) (ls' := [some (.ref x0)]) (st' := [.ref x0, .int (Int32.ofNat (slen x0))]) (by decide +kernel) rfl ?_
  have k := b_callI (sc := sc) (h := 2) (M := 248) (pc := 6) (ls := [some (.ref x0)]) (st := [.ref x0, .int (Int32.ofNat (slen x0))]) (σ := σ) (r := oI 0 σ) 249 1 [.ref x0] (rest := [.int (Int32.ofNat (slen x0))]) (kk := fun x τ => oI (Int32.ofNat (slen x0) >>> (x &&& 31)) τ) (by decide +kernel) rfl rfl rfl (go_X rfl (by decide +kernel) hx0) rfl (s249 x0 σ hx0) (by decide) (fun x τ => by
    refine b_run [(9, .ishr, 0, 0, .null)] (pc' := 10) (ls' := [some (.ref x0)]) (st' := [.int (Int32.ofNat (slen x0) >>> (x &&& 31))]) (by decide +kernel) rfl ?_
    exact b_ret (i := (.ireturn, 0, 0, .null)) (by decide +kernel) rfl rfl (fit_I _))
  have e1 : Int32.ofNat (slen x0) >>> ((0 : Int32) &&& 31) = Int32.ofNat (slen x0) := by
    have e2 : ((0 : Int32) &&& 31) = 0 := by decide
    rw [e2]
    apply Int32.toBitVec_inj.mp
    simp
  simp only [cI, e1] at k
  exact k
theorem s254 {sc : aSc} (x0 x1 : Int32) (v : Value) (σ : St) (h0 : ¬ x0 < 0) (h1 : x0 < x1) : bEx sc 0 254 0 [some (.int x0), some (.int x1), some v] [] σ (oI x0 σ) := by
  refine b_run [(0, .iload_n 0, 0, 0, .null)] (pc' := 1) (ls' := [some (.int x0), some (.int x1), some v]) (st' := [.int x0]) (by decide +kernel) rfl ?_
  have k := b_izT (sc := sc) (h := 0) (M := 254) (pc := 1) (ls := [some (.int x0), some (.int x1), some v]) (rest := []) (σ := σ) (x := x0) (r1 := none) (r2 := oI x0 σ) (c := .lt) (o := 8) (t := 9) (y := 0) (w := .null) (by decide +kernel) cmp_lt (fun hh => absurd hh h0) (fun _ => by
    refine b_run [(4, .iload_n 0, 0, 0, .null), (5, .iload_n 1, 0, 0, .null)] (pc' := 6) (ls' := [some (.int x0), some (.int x1), some v]) (st' := [.int x1, .int x0]) (by decide +kernel) rfl ?_
    have k2 := b_icT (sc := sc) (h := 0) (M := 254) (pc := 6) (ls := [some (.int x0), some (.int x1), some v]) (rest := []) (σ := σ) (x := x0) (z := x1) (r1 := oI x0 σ) (r2 := none) (c := .lt) (o := 10) (t := 16) (y := 0) (w := .null) (by decide +kernel) cmp_lt (fun _ => by
      refine b_run [(16, .iload_n 0, 0, 0, .null)] (pc' := 17) (ls' := [some (.int x0), some (.int x1), some v]) (st' := [.int x0]) (by decide +kernel) rfl ?_
      exact b_ret (i := (.ireturn, 0, 0, .null)) (by decide +kernel) rfl rfl (fit_I _)) (fun hh => absurd h1 hh)
    rw [if_pos h1] at k2
    exact k2)
  rw [if_neg h0] at k
  exact k
theorem s252 {sc : aSc} (hv : vOk sc) (x0 x1 : Int32) (σ : St) (h0 : ¬ x0 < 0) (h1 : x0 < x1) : bEx sc 1 252 0 [some (.int x0), some (.int x1)] [] σ (oV σ) := by
  refine b_run [(0, .iload_n 0, 0, 0, .null), (1, .iload_n 1, 0, 0, .null)] (pc' := 2) (ls' := [some (.int x0), some (.int x1)]) (st' := [.int x1, .int x0]) (by decide +kernel) rfl ?_
  refine b_one (i := (.getstatic 1053, 1, 0, .null)) (pc' := 5) (ls' := [some (.int x0), some (.int x1)]) (st' := [sc.2.2, .int x1, .int x0]) (σ1 := σ) (by decide +kernel) rfl rfl ?_
  rcases hv with hv | hv
  · rw [hv]
    have k := b_callI (sc := sc) (h := 0) (M := 252) (pc := 5) (ls := [some (.int x0), some (.int x1)]) (st := [.null, .int x1, .int x0]) (σ := σ) (r := oI x0 σ) 254 3 [.int x0, .int x1, .null] (rest := []) (kk := fun _ τ => oV τ) (by decide +kernel) rfl rfl rfl (go_S rfl (by decide +kernel)) rfl (s254 x0 x1 .null σ h0 h1) (by decide) (fun x τ => by
      refine b_run [(8, .pop, 0, 0, .null)] (pc' := 9) (ls' := [some (.int x0), some (.int x1)]) (st' := []) (by decide +kernel) rfl ?_
      exact b_ret0 (i := (.return_, 0, 0, .null)) (by decide +kernel) rfl rfl)
    exact k
  · rw [hv]
    have k := b_callI (sc := sc) (h := 0) (M := 252) (pc := 5) (ls := [some (.int x0), some (.int x1)]) (st := [.ref 999, .int x1, .int x0]) (σ := σ) (r := oI x0 σ) 254 3 [.int x0, .int x1, .ref 999] (rest := []) (kk := fun _ τ => oV τ) (by decide +kernel) rfl rfl rfl (go_S rfl (by decide +kernel)) rfl (s254 x0 x1 (.ref 999) σ h0 h1) (by decide) (fun x τ => by
      refine b_run [(8, .pop, 0, 0, .null)] (pc' := 9) (ls' := [some (.int x0), some (.int x1)]) (st' := []) (by decide +kernel) rfl ?_
      exact b_ret0 (i := (.return_, 0, 0, .null)) (by decide +kernel) rfl rfl)
    exact k
theorem fit_S (a j : Nat) : aFit .char (.int (schr a j)) = true := by
  unfold schr
  have h : ∀ l ∈ xBy, ∀ c ∈ l, aFit .char (.int (((c &&& 255 : Int32).toUInt32 % 65536).toInt32)) = true := by decide +kernel
  have h0 : aFit .char (.int ((((0 : Int32) &&& 255 : Int32).toUInt32 % 65536).toInt32)) = true := by decide +kernel
  rw [List.getD_eq_getElem?_getD, List.getD_eq_getElem?_getD]
  cases h1 : xBy[a - 1]? with
  | none => exact h0
  | some l =>
    rw [Option.getD_some]
    cases h2 : l[j]? with
    | none => exact h0
    | some c => exact h l (List.mem_of_getElem? h1) c (List.mem_of_getElem? h2)
theorem s253 {sc : aSc} (hv : vOk sc) (a : Nat) (x : Int32) (σ : St) (hs : isS a = true) (hb : inB x (slen a)) : bEx sc 2 253 0 [some (.ref (199 + a)), some (.int x)] [] σ (oI (schr a x.toNatClampNeg) σ) := by
  refine b_run [(0, .iload_n 1, 0, 0, .null), (1, .aload_n 0, 0, 0, .null)] (pc' := 2) (ls' := [some (.ref (199 + a)), some (.int x)]) (st' := [.ref (199 + a), .int x]) (by decide +kernel) rfl ?_
  refine b_lS (q := 0) (y := 0) (w := .null) (by decide +kernel) hs ?_
  have h0 : ¬ x < 0 := fun hh => hb (Or.inl hh)
  have h1 : x < Int32.ofNat (slen a) := by
    have h2 : ¬ slen a ≤ x.toNatClampNeg := fun hh => hb (Or.inr hh)
    have h3 := slen_le a
    rw [Int32.lt_iff_toInt_lt] at h0 ⊢
    rw [Int32.toInt_ofNat_of_lt (by omega)]
    have h4 : (0 : Int32).toInt = 0 := rfl
    have h5 : x.toNatClampNeg = x.toInt.toNat := rfl
    omega
  have k := b_callV (sc := sc) (h := 1) (M := 253) (pc := 3) (ls := [some (.ref (199 + a)), some (.int x)]) (st := [.int (Int32.ofNat (slen a)), .int x]) (σ := σ) (r := oV σ) 252 2 [.int x, .int (Int32.ofNat (slen a))] (rest := []) (kk := fun τ => oI (schr a x.toNatClampNeg) τ) (by decide +kernel) rfl rfl rfl (go_S rfl (by decide +kernel)) rfl (s252 hv x (Int32.ofNat (slen a)) σ h0 h1) (by decide) (fun τ => by
    refine b_run [(6, .aload_n 0, 0, 0, .null), (7, .iload_n 1, 0, 0, .null)] (pc' := 8) (ls' := [some (.ref (199 + a)), some (.int x)]) (st' := [.int x, .ref (199 + a)]) (by decide +kernel) rfl ?_
    refine b_aS (y := 0) (w := .null) (by decide +kernel) hs hb ?_
    refine b_run [(9, .sipush 255, 0, 0, .null), (12, .iand, 0, 0, .null), (13, .i2c, 0, 0, .null)] (pc' := 14) (ls' := [some (.ref (199 + a)), some (.int x)]) (st' := [.int (schr a x.toNatClampNeg)]) (by decide +kernel) rfl ?_
    exact b_ret (i := (.ireturn, 0, 0, .null)) (by decide +kernel) rfl rfl (fit_S _ _))
  exact k
theorem s250 {sc : aSc} (hv : vOk sc) (F : Nat) (x0 : Nat) (x1 : Int32) (σ : St) (hx0 : isS x0 = true) : bEx sc 3 250 0 [some (.ref x0), some (.int x1)] [] σ (f250 F x0 x1 σ) := by
  unfold f250
  refine b_guard (fun hb => ?_)
  refine b_run [(0, .aload_n 0, 0, 0, .null)] (pc' := 1) (ls' := [some (.ref x0), some (.int x1)]) (st' := [.ref x0]) (by decide +kernel) rfl ?_
  have k := b_callI (sc := sc) (h := 2) (M := 250) (pc := 1) (ls := [some (.ref x0), some (.int x1)]) (st := [.ref x0]) (σ := σ) (r := oI 1 σ) 251 1 [.ref x0] (rest := []) (kk := fun c τ => if c = 0 then none else cI (oI (schr x0 x1.toNatClampNeg) τ) (fun e τ' => if aFit .char (.int e) = true then oI e τ' else none)) (by decide +kernel) rfl rfl rfl (go_X rfl (by decide +kernel) hx0) rfl (s251 x0 σ hx0) (by decide) (fun c τ => by
    refine b_izT (c := .eq) (o := 12) (t := 16) (y := 0) (w := .null) (by decide +kernel) cmp_eq (fun _ => b_none) (fun _ => ?_)
    refine b_run [(7, .aload_n 0, 0, 0, .null)] (pc' := 8) (ls' := [some (.ref x0), some (.int x1)]) (st' := [.ref x0]) (by decide +kernel) rfl ?_
    refine b_gS0 (q := 9) (w := .null) (by decide +kernel) hx0 ?_
    refine b_run [(11, .iload_n 1, 0, 0, .null)] (pc' := 12) (ls' := [some (.ref x0), some (.int x1)]) (st' := [.int x1, .ref (199 + x0)]) (by decide +kernel) rfl ?_
    refine b_callI 253 2 [.ref (199 + x0), .int x1] (rest := []) (by decide +kernel) rfl rfl rfl (go_S rfl (by decide +kernel)) rfl (s253 hv x0 x1 τ hx0 hb) (by decide) (fun e τ' => ?_)
    refine b_guard (fun hf => ?_)
    exact b_ret (i := (.ireturn, 0, 0, .null)) (by decide +kernel) rfl rfl hf)
  have e1 : aFit .char (.int (schr x0 x1.toNatClampNeg)) = true := fit_S _ _
  simp only [cI, e1, if_true, show ¬ ((1 : Int32) = 0) by decide, if_false] at k
  exact k
theorem s255 {sc : aSc} (_hv : vOk sc) (F : Nat) (x0 : Nat) (σ : St) (hx0 : isX x0 = true) : bEx sc 3 255 0 [some (.ref x0)] [] σ (f255 F x0 σ) := by
  refine b_run [(0, .aload_n 0, 0, 0, .null)] (pc' := 1) (ls' := [some (.ref x0)]) (st' := [.ref x0]) (by decide +kernel) rfl ?_
  simp only [isX, Bool.and_eq_true, decide_eq_true_eq] at hx0
  refine b_one (i := (.getfield 7, 22, 0, .null)) (pc' := 4) (ls' := [some (.ref x0)]) (st' := [.int (Int32.ofNat (x0 - 100))]) (σ1 := σ) (by decide +kernel) rfl ?_ ?_
  · simp only [aStep, aPush, aFld, xFd]
    rw [if_pos (by omega), if_neg (by omega), if_neg (by omega), if_pos ⟨hx0.1, hx0.2, trivial, trivial⟩]
  · exact b_ret (i := (.ireturn, 0, 0, .null)) (by decide +kernel) rfl rfl (fit_I _)
