/-! what the grammar keeps to: places go on, values are held to their bounds -/
theorem nd_okB {ns : List Nd} (hw : wf ns) {i : Nat} (hi : i < ns.length) : okB (nd ns i).2.2.1 ∧ okB (nd ns i).2.2.2 := by
  by_cases c : i = 0
  · rw [c, hw.2.1]
    exact ⟨okB_nil, okB_nil⟩
  · have h := (hw.2.2.2 i (by omega) hi).1
    exact ⟨h.2.2.2.2.1, h.2.2.2.2.2.1⟩
theorem flT_okB : ∀ (l : List Nd), (∀ y, y ∈ l → okB y.2.2.2) → okB (flT l)
  | [], _ => okB_nil
  | y :: l, h => by
    rw [flT_cons]
    refine okB_app ?_ (flT_okB l (fun z hz => h z (List.mem_cons_of_mem _ hz)))
    unfold tOf
    split
    · exact h y (List.mem_cons_self ..)
    · exact okB_nil
theorem mem_nd {ns : List Nd} {y : Nd} (h : y ∈ ns) : ∃ i, i < ns.length ∧ nd ns i = y := by
  obtain ⟨i, hi, e⟩ := List.getElem_of_mem h
  exact ⟨i, hi, nd_of (by rw [List.getElem?_eq_getElem hi, e])⟩
theorem sv_okB {ns : List Nd} (hw : wf ns) {p : Nat} (hp : p < ns.length) : okB (sv ns p) := by
  unfold sv
  split
  · exact (nd_okB hw hp).2
  · refine flT_okB _ (fun y hy => ?_)
    obtain ⟨i, hi, e⟩ := mem_nd (List.mem_of_mem_drop (List.mem_of_mem_take hy))
    rw [← e]
    exact (nd_okB hw hi).2
theorem wf.k4 {ns : List Nd} (hw : wf ns) {i : Nat} (hi : i < ns.length) : (nd ns i).1 ≤ 4 := by
  by_cases c : i = 0
  · rw [c, hw.2.1]
    exact Nat.zero_le _
  · exact (hw.2.2.2 i (by omega) hi).1.2.1
theorem sv_len {ns : List Nd} (hw : wf ns) (hs : szOk ns) {p : Nat} (hp : p < ns.length) : (sv ns p).length ≤ 4096 := by
  obtain ⟨h1, h2, h3⟩ := v_str hw.2.2.1 (hw.k4 hp) hp
  rw [← h3, stre_len (by omega)]
  have h4 : (vLs ns p).length ≤ 4096 := by
    unfold vLs
    split
    · exact hs.2.2
    · exact hs.2.1
  omega
def qOk (ns : List Nd) (b : List Int32) : Prop := wf ns ∧ szOk ns ∧ okB b ∧ b.length ≤ 120
def evOK (ns : List Nd) (e : Ev) : Prop := ∀ n x l, n < ns.length → x ≤ 30 → l ≤ 30 → vOK ns (e n x l)
def opOK (ns : List Nd) (e : Ev) : Prop := evOK ns e ∧ ∀ n x l, n < ns.length → x ≤ 30 → l ≤ 30 → ∀ w, nmV ns (e n x l) = some w → -1000000000 < w ∧ w < 1000000000
def smOK (ns : List Nd) (m : Sm) : Prop := ∀ n, n < ns.length → inN ns.length (m n)
def gP (ns : List Nd) (b : List Int32) (P : Nat → Option (Nat × Sm)) : Prop := ∀ p x, p ≤ b.length → P p = some x → p < x.1 ∧ x.1 ≤ b.length ∧ smOK ns x.2
def gE (ns : List Nd) (b : List Int32) (E : Nat → Option (Nat × Ev)) : Prop := ∀ p x, p ≤ b.length → E p = some x → p < x.1 ∧ x.1 ≤ b.length ∧ evOK ns x.2
def gO (ns : List Nd) (b : List Int32) (E : Nat → Option (Nat × Ev)) : Prop := ∀ p x, p ≤ b.length → E p = some x → p < x.1 ∧ x.1 ≤ b.length ∧ opOK ns x.2
theorem ch_lt {b : List Int32} {p : Nat} {c : Int32} (h : b.getD p 0 = c) (hc : ¬ c = 0) : p < b.length := nz_lt (by rw [h]; exact hc)
theorem axF_lt {w : List Int32} {a : Nat} : ∀ m j, axF w j m = some a → a < j + m
  | 0, _, h => by cases h
  | m + 1, j, h => by
    unfold axF at h
    split at h
    · injection h with h
      omega
    · have := axF_lt m (j + 1) h
      omega
section GOK
variable {ns : List Nd} {b : List Int32}
theorem rdA_ok {p : Nat} {x : Nat × Nat} (hp : p ≤ b.length) (h : rdA b p = some x) : x.1 < 12 ∧ p ≤ x.2 ∧ x.2 ≤ b.length := by
  have h1 := nmE_ge (b := b) (p := p)
  unfold rdA at h
  split at h
  · next c =>
    injection h with h
    subst h
    have := ch_lt c (by decide)
    exact ⟨by simp, by show p ≤ p + 1; omega, this⟩
  · split at h
    · injection h with h
      subst h
      exact ⟨by simp, Nat.le_refl _, hp⟩
    · split at h
      · next c =>
        split at h
        · cases h
        · next a ha =>
          injection h with h
          subst h
          have := ch_lt c.2 (by decide)
          exact ⟨by have := axF_lt 12 0 ha; show a < 12; omega, by show p ≤ nmE b p + 2; omega, this⟩
      · injection h with h
        subst h
        exact ⟨by simp, Nat.le_refl _, hp⟩
theorem kdT_lt {w : List Int32} {t : Nat} (h : kdT w = some t) : t < 5 := by
  unfold kdT at h
  split at h
  · injection h with h
    omega
  · split at h
    · injection h with h
      omega
    · split at h
      · injection h with h
        omega
      · cases h
theorem rdK_ok {p : Nat} {x : (Nat × Nat × Nat) × Nat} (hp : p ≤ b.length) (h : rdK b p = some x) : x.1.1 < 5 ∧ x.1.2.1 + x.1.2.2 ≤ b.length ∧ p < x.2 ∧ x.2 ≤ b.length := by
  have h1 := nmE_ge (b := b) (p := p)
  have h2 := nmE_le hp
  unfold rdK at h
  split at h
  · next c =>
    injection h with h
    subst h
    have := ch_lt c (by decide)
    exact ⟨by simp, Nat.zero_le _, by show p < p + 1; omega, this⟩
  · split at h
    · cases h
    · split at h
      · split at h
        · next c =>
          split at h
          · cases h
          · next t ht =>
            injection h with h
            subst h
            have := ch_lt c (by decide)
            exact ⟨kdT_lt ht, Nat.zero_le _, by show p < nmE b p + 2; omega, this⟩
        · cases h
      · injection h with h
        subst h
        exact ⟨by simp, by show p + (nmE b p - p) ≤ _; omega, by show p < nmE b p; omega, h2⟩
theorem rdQ_ok {E : Nat → Option (Nat × Ev)} (hE : gE ns b E) : ∀ (n p : Nat) (x : Nat × List Ev), p ≤ b.length → rdQ b E n p = some x → p ≤ x.1 ∧ x.1 ≤ b.length ∧ ∀ e, e ∈ x.2 → evOK ns e
  | 0, _, _, _, h => by cases h
  | n + 1, p, x, hp, h => by
    unfold rdQ at h
    split at h
    · next c =>
      have c1 := ch_lt c (by decide)
      split at h
      · cases h
      · next y hy =>
        obtain ⟨g1, g2, g3⟩ := hE _ _ (by omega) hy
        split at h
        · next c2 =>
          have c3 := ch_lt c2 (by decide)
          split at h
          · cases h
          · next z hz =>
            obtain ⟨k1, k2, k3⟩ := rdQ_ok hE n _ z (by omega) hz
            injection h with h
            subst h
            refine ⟨by show p ≤ z.1; omega, k2, fun e he => ?_⟩
            rcases List.mem_cons.mp he with he | he
            · rw [he]
              exact g3
            · exact k3 e he
        · cases h
    · injection h with h
      subst h
      exact ⟨Nat.le_refl _, hp, fun e he => by cases he⟩
theorem rdS_ok (hn : ns.length ≤ 32) {E : Nat → Option (Nat × Ev)} (hE : gE ns b E) {p : Nat} {x : Nat × Sm} (hp : p ≤ b.length) (h : rdS ns b E p = some x) : p < x.1 ∧ x.1 ≤ b.length ∧ ∀ j, inN ns.length (x.2 j) := by
  unfold rdS at h
  split at h
  · next c =>
    have c1 := ch_lt c (by decide)
    split at h
    · next c2 =>
      have c3 := ch_lt c2 (by decide)
      injection h with h
      subst h
      exact ⟨by show p < p + 2; omega, c3, fun j => inN_stp hn⟩
    · injection h with h
      subst h
      exact ⟨by show p < p + 1; omega, c1, fun j => inN_stp hn⟩
  · split at h
    · cases h
    · next y hy =>
      obtain ⟨a1, a2, a3⟩ := rdA_ok hp hy
      split at h
      · cases h
      · next z hz =>
        obtain ⟨k1, k2, k3, k4⟩ := rdK_ok a3 hz
        split at h
        · cases h
        · next w hw =>
          obtain ⟨q1, q2, q3⟩ := rdQ_ok hE 130 _ w k4 hw
          injection h with h
          subst h
          exact ⟨by show p < w.1; omega, q2, fun j => inN_stp hn⟩
theorem dsP_le {p : Nat} (hp : p ≤ b.length) : p ≤ dsP b p ∧ dsP b p ≤ b.length := by
  unfold dsP
  split
  · next c =>
    have := ch_lt c (by decide)
    omega
  · omega
theorem dsS_ok (hn : ns.length ≤ 32) {p : Nat} {ss : List Sm} (h : ∀ s, s ∈ ss → ∀ j, inN ns.length (s j)) : ∀ s, s ∈ dsS ns b p ss → ∀ j, inN ns.length (s j) := by
  intro s hs
  unfold dsS at hs
  split at hs
  · rcases List.mem_cons.mp hs with hs | hs
    · rw [hs]
      exact fun j => inN_stp hn
    · exact h s hs
  · exact h s hs
theorem rdL_ok (hn : ns.length ≤ 32) {E : Nat → Option (Nat × Ev)} (hE : gE ns b E) : ∀ (n p : Nat) (x : Nat × List Sm), p ≤ b.length → rdL ns b E n p = some x → p < x.1 ∧ x.1 ≤ b.length ∧ ∀ s, s ∈ x.2 → ∀ j, inN ns.length (s j)
  | 0, _, _, _, h => by cases h
  | n + 1, p, x, hp, h => by
    have hd := dsP_le hp
    unfold rdL at h
    split at h
    · cases h
    · next y hy =>
      obtain ⟨g1, g2, g3⟩ := rdS_ok hn hE hd.2 hy
      split at h
      · next c =>
        have c1 := ch_lt c (by decide)
        split at h
        · cases h
        · next z hz =>
          obtain ⟨k1, k2, k3⟩ := rdL_ok hn hE n _ z (by omega) hz
          injection h with h
          subst h
          refine ⟨by show p < z.1; omega, k2, dsS_ok hn (fun s hs => ?_)⟩
          rcases List.mem_cons.mp hs with hs | hs
          · rw [hs]
            exact g3
          · exact k3 s hs
      · injection h with h
        subst h
        refine ⟨by show p < y.1; omega, g2, dsS_ok hn (fun s hs => ?_)⟩
        rw [List.mem_singleton] at hs
        rw [hs]
        exact g3
theorem pthM_ok {r : Bool} {ss : List Sm} (hn : ns.length ≤ 32) (h0 : 0 < ns.length) (h : ∀ s, s ∈ ss → ∀ j, inN ns.length (s j)) : smOK ns (pthM ns r ss) := fun n hn2 => inN_pthF ss _ (inN_o (by split <;> omega) hn) (fun s hs j _ => h s hs j)
theorem rdP_ok (hn : ns.length ≤ 32) (h0 : 0 < ns.length) {E : Nat → Option (Nat × Ev)} (hE : gE ns b E) : gP ns b (rdP ns b E) := by
  intro p x hp h
  unfold rdP at h
  split at h
  · next c =>
    have c1 := ch_lt c (by decide)
    split at h
    · split at h
      · cases h
      · next y hy =>
        obtain ⟨k1, k2, k3⟩ := rdL_ok hn hE 130 _ y (by omega) hy
        injection h with h
        subst h
        exact ⟨by show p < y.1; omega, k2, pthM_ok hn h0 k3⟩
    · injection h with h
      subst h
      exact ⟨by show p < p + 1; omega, c1, pthM_ok hn h0 (fun s hs => by cases hs)⟩
  · split at h
    · cases h
    · next y hy =>
      obtain ⟨k1, k2, k3⟩ := rdL_ok hn hE 130 _ y hp hy
      injection h with h
      subst h
      exact ⟨k1, k2, pthM_ok hn h0 k3⟩
theorem dgC_ok : ∀ (m p : Nat), dgC b p m ≤ m ∧ (∀ j, j < dgC b p m → isDig (b.getD (p + j) 0) = true) ∧ (dgC b p m < m → isDig (b.getD (p + dgC b p m) 0) = false)
  | 0, p => ⟨Nat.le_refl _, fun j hj => absurd hj (Nat.not_lt_zero _), fun h => absurd h (Nat.lt_irrefl _)⟩
  | m + 1, p => by
    obtain ⟨h1, h2, h3⟩ := dgC_ok m (p + 1)
    unfold dgC
    by_cases c : isDig (b.getD p 0) = true
    · rw [if_pos c]
      refine ⟨by omega, fun j hj => ?_, fun h => ?_⟩
      · by_cases e : j = 0
        · rw [e]
          exact c
        · have := h2 (j - 1) (by omega)
          rw [show p + 1 + (j - 1) = p + j by omega] at this
          exact this
      · have := h3 (by omega)
        rw [show p + 1 + dgC b (p + 1) m = p + (dgC b (p + 1) m + 1) by omega] at this
        exact this
    · rw [if_neg c]
      rw [Bool.not_eq_true] at c
      exact ⟨by omega, fun j hj => absurd hj (Nat.not_lt_zero _), fun _ => c⟩
theorem dgC_le {m p : Nat} (hp : p ≤ b.length) : p + dgC b p m ≤ b.length := by
  obtain ⟨h1, h2, h3⟩ := dgC_ok (b := b) m p
  by_cases c : dgC b p m = 0
  · omega
  · have := dig_lt (h2 (dgC b p m - 1) (by omega))
    omega
theorem dgC_pos {m p : Nat} (h : isDig (b.getD p 0) = true) : 0 < dgC b p (m + 1) := by
  unfold dgC
  rw [if_pos h]
  omega
theorem opOK.num {f : Nat → Nat → Nat → Int} (h : ∀ n x l, n < ns.length → x ≤ 30 → l ≤ 30 → -1000000000 < f n x l ∧ f n x l < 1000000000) : opOK ns (fun n x l => vN (some (f n x l))) := by
  refine ⟨fun n x l h1 h2 h3 => Or.inl ⟨rfl, fun v hv => ?_⟩, fun n x l h1 h2 h3 w hw => ?_⟩
  · have hv : some (f n x l) = some v := hv
    injection hv with hv
    have := h n x l h1 h2 h3
    omega
  · have hw : some (f n x l) = some w := hw
    injection hw with hw
    have := h n x l h1 h2 h3
    omega
theorem rdO_ok (hq : qOk ns b) {P P' : Nat → Option (Nat × Sm)} {E' : Nat → Option (Nat × Ev)} (hP : gP ns b P) (hP' : gP ns b P') (hE : gE ns b E') : gO ns b (rdO ns b P P' E') := by
  obtain ⟨hw, hs, ho, hb⟩ := hq
  have hn := hs.1.1
  intro p x hp h
  have n1 := nmE_ge (b := b) (p := p)
  have n2 := nmE_le hp
  have pth : ∀ y, asE (P p) = some y → p < y.1 ∧ y.1 ≤ b.length ∧ opOK ns y.2 := by
    intro y hy
    unfold asE at hy
    split at hy
    · cases hy
    · next z hz =>
      obtain ⟨g1, g2, g3⟩ := hP _ _ hp hz
      injection hy with hy
      subst hy
      refine ⟨g1, g2, fun n _ _ h1 _ _ => vOK.s (g3 n h1), fun n _ _ h1 _ _ w hw2 => ?_⟩
      have hw3 : numP ns (lowS (z.2 n) ns.length 0) = some w := hw2
      unfold numP at hw3
      split at hw3
      · cases hw3
      · exact numT_ok w hw3
  unfold rdO at h
  split at h
  · next c =>
    unfold rdN at h
    injection h with h
    subst h
    have d1 := dgC_ok (b := b) 6 p
    have d2 := dgN_lt (s := b) (i := p) (dgC b p 6) d1.2.1
    have d3 : 10 ^ dgC b p 6 ≤ 10 ^ 6 := Nat.pow_le_pow_right (by decide) d1.1
    have d4 : (10 : Nat) ^ 6 = 1000000 := by decide
    have d5 : 0 < dgC b p 6 := dgC_pos (m := 5) c
    exact ⟨by show p < p + dgC b p 6; omega, dgC_le hp, opOK.num (f := fun _ _ _ => (dgN b p (dgC b p 6) : Int)) (fun _ _ _ _ _ _ => by omega)⟩
  · split at h
    · next c =>
      have c1 := ch_lt c (by decide)
      unfold rdT1 at h
      split at h
      · next c2 =>
        have s1 := skp_ge (f := isNq) (b := b) (p := p + 1)
        injection h with h
        subst h
        refine ⟨by show p < skp isNq b (p + 1) + 1; omega, c2, fun n _ _ _ _ _ => vOK.t (okB_stre ho) ?_, fun n _ _ _ _ _ w hw2 => numT_ok w hw2⟩
        rw [stre_len (by omega)]
        omega
      · cases h
    · split at h
      · next c0 =>
        have c3 := ch_lt c0.2 (by decide)
        split at h
        · split at h
          · next c =>
            have c1 := ch_lt c (by decide)
            injection h with h
            subst h
            exact ⟨by show p < nmE b p + 2; omega, c1, opOK.num (f := fun _ x _ => (x : Int)) (fun _ _ _ _ _ _ => by omega)⟩
          · cases h
        · split at h
          · split at h
            · next c =>
              have c1 := ch_lt c (by decide)
              injection h with h
              subst h
              exact ⟨by show p < nmE b p + 2; omega, c1, opOK.num (f := fun _ _ x => (x : Int)) (fun _ _ _ _ _ _ => by omega)⟩
            · cases h
          · split at h
            · split at h
              · cases h
              · next y hy =>
                obtain ⟨g1, g2, g3⟩ := hP' _ _ (by omega) hy
                split at h
                · next c =>
                  have c1 := ch_lt c (by decide)
                  injection h with h
                  subst h
                  refine ⟨by show p < y.1 + 1; omega, c1, opOK.num (f := fun n _ _ => (cntB (y.2 n) ns.length : Int)) (fun n _ _ _ _ _ => ?_)⟩
                  have := cntB_le (x := y.2 n) ns.length
                  omega
                · cases h
            · split at h
              · split at h
                · cases h
                · next y hy =>
                  obtain ⟨g1, g2, g3⟩ := hE _ _ (by omega) hy
                  split at h
                  · next c =>
                    have c1 := ch_lt c (by decide)
                    injection h with h
                    subst h
                    refine ⟨by show p < y.1 + 1; omega, c1, fun n a l _ _ _ => vOK.b, fun n a l _ _ _ w hw2 => ?_⟩
                    have hw3 : some (if (!tru (y.2 n a l)) = true then (1 : Int) else 0) = some w := hw2
                    injection hw3 with hw3
                    split at hw3 <;> omega
                  · cases h
              · exact pth x h
      · exact pth x h
theorem sumO_b {n p t : Nat} (hn : n < ns.length) (hp : p ≤ 30) (ht : t ≤ 30) : ∀ (l : List (Bool × Ev)) (a : Option Int) (K : Int), (∀ x, x ∈ l → opOK ns x.2) → (∀ v, a = some v → -K ≤ v ∧ v ≤ K) → ∀ w, sumO ns n p t l a = some w → -(K + 1000000000 * l.length) ≤ w ∧ w ≤ K + 1000000000 * l.length
  | [], a, K, _, h, w, hw => by
    have := h w hw
    simp only [List.length_nil]
    omega
  | x :: l, a, K, ho, h, w, hw => by
    have h1 : ∀ v, addO x.1 a (nmV ns (x.2 n p t)) = some v → -(K + 1000000000) ≤ v ∧ v ≤ K + 1000000000 := by
      intro v hv
      cases ha : a with
      | none => rw [ha] at hv; cases hv
      | some u =>
        have h2 := h u ha
        cases hb : nmV ns (x.2 n p t) with
        | none => rw [ha, hb] at hv; cases hv
        | some z =>
          have h3 := (ho x (List.mem_cons_self ..)).2 n p t hn hp ht z hb
          rw [ha, hb] at hv
          have hv : some (if x.1 = true then u - z else u + z) = some v := hv
          injection hv with hv
          split at hv <;> omega
    have := sumO_b hn hp ht l _ (K + 1000000000) (fun y hy => ho y (List.mem_cons_of_mem _ hy)) h1 w hw
    simp only [List.length_cons]
    omega
theorem rdM_ok {O : Nat → Option (Nat × Ev)} (hO : gO ns b O) : ∀ (n p : Nat) (x : Nat × List (Bool × Ev)), p ≤ b.length → rdM b O n p = some x → p + x.2.length ≤ x.1 ∧ x.1 ≤ b.length ∧ ∀ y, y ∈ x.2 → opOK ns y.2
  | 0, _, _, _, h => by cases h
  | n + 1, p, x, hp, h => by
    unfold rdM at h
    split at h
    · next c =>
      have c1 : p < b.length := by
        rcases c with c | c
        · exact ch_lt c (by decide)
        · exact ch_lt c (by decide)
      split at h
      · cases h
      · next y hy =>
        obtain ⟨g1, g2, g3⟩ := hO _ _ (by omega) hy
        split at h
        · cases h
        · next z hz =>
          obtain ⟨k1, k2, k3⟩ := rdM_ok hO n _ z g2 hz
          injection h with h
          subst h
          refine ⟨by show p + (z.2.length + 1) ≤ z.1; omega, k2, fun e he => ?_⟩
          rcases List.mem_cons.mp he with he | he
          · rw [he]
            exact g3
          · exact k3 e he
    · injection h with h
      subst h
      exact ⟨Nat.le_refl _, hp, fun e he => by cases he⟩
theorem rdU_ok (hb : b.length ≤ 120) {O : Nat → Option (Nat × Ev)} (hO : gO ns b O) : gE ns b (rdU ns b O) := by
  intro p x hp h
  unfold rdU at h
  split at h
  · cases h
  · next y hy =>
    obtain ⟨g1, g2, g3⟩ := hO _ _ hp hy
    split at h
    · split at h
      · cases h
      · next z hz =>
        obtain ⟨k1, k2, k3⟩ := rdM_ok hO 130 _ z g2 hz
        injection h with h
        subst h
        refine ⟨by show p < z.1; omega, k2, fun n a t hn ha ht => Or.inl ⟨rfl, fun v hv => ?_⟩⟩
        have := sumO_b hn ha ht ((false, y.2) :: z.2) (some 0) 0 (fun e he => by
          rcases List.mem_cons.mp he with he | he
          · rw [he]
            exact g3
          · exact k3 e he) (fun v hv => by injection hv with hv; omega) v hv
        simp only [List.length_cons] at this
        omega
    · injection h with h
      subst h
      exact ⟨g1, g2, g3.1⟩
theorem cmO_ok {p : Nat} {z : Option Nat × Nat} (hp : p ≤ b.length) (h : cmO b p = some z) : p ≤ z.2 ∧ z.2 ≤ b.length ∧ ∀ o, z.1 = some o → o < 4 ∧ p < z.2 := by
  unfold cmO at h
  split at h
  · next c =>
    have c1 := ch_lt c (by decide)
    injection h with h
    subst h
    exact ⟨by show p ≤ p + 1; omega, c1, fun o ho => by injection ho with ho; exact ⟨by omega, by show p < p + 1; omega⟩⟩
  · split at h
    · next c =>
      have c1 := ch_lt c (by decide)
      injection h with h
      subst h
      exact ⟨by show p ≤ p + 1; omega, c1, fun o ho => by injection ho with ho; exact ⟨by omega, by show p < p + 1; omega⟩⟩
    · split at h
      · next c =>
        have c1 := ch_lt c (by decide)
        injection h with h
        subst h
        exact ⟨by show p ≤ p + 1; omega, c1, fun o ho => by injection ho with ho; exact ⟨by omega, by show p < p + 1; omega⟩⟩
      · split at h
        · split at h
          · next c =>
            have c1 := ch_lt c (by decide)
            injection h with h
            subst h
            exact ⟨by show p ≤ p + 2; omega, c1, fun o ho => by injection ho with ho; exact ⟨by omega, by show p < p + 2; omega⟩⟩
          · cases h
        · injection h with h
          subst h
          exact ⟨Nat.le_refl _, hp, fun o ho => by cases ho⟩
theorem rdX_ok (hb : b.length ≤ 120) {O : Nat → Option (Nat × Ev)} (hO : gO ns b O) : gE ns b (rdX ns b O) := by
  intro p x hp h
  have hU := rdU_ok hb hO
  unfold rdX at h
  split at h
  · cases h
  · next y hy =>
    obtain ⟨g1, g2, g3⟩ := hU _ _ hp hy
    split at h
    · cases h
    · next z hz =>
      obtain ⟨c1, c2, c3⟩ := cmO_ok g2 hz
      split at h
      · injection h with h
        subst h
        exact ⟨g1, g2, g3⟩
      · split at h
        · cases h
        · next w hw =>
          obtain ⟨k1, k2, k3⟩ := hU _ _ c2 hw
          injection h with h
          subst h
          exact ⟨by show p < w.1; omega, k2, fun n a t _ _ _ => vOK.b⟩
theorem lev_ok (hq : qOk ns b) : ∀ k, gP ns b (lev ns b k).1 ∧ gE ns b (lev ns b k).2
  | 0 => ⟨fun p x _ h => (by cases h), fun p x _ h => (by cases h)⟩
  | k + 1 => by
    obtain ⟨h1, h2⟩ := lev_ok hq k
    have hn := hq.2.1.1.1
    have hP := rdP_ok (b := b) (by omega) hq.1.1 h2
    exact ⟨hP, rdX_ok hq.2.2.2 (rdO_ok hq hP h1 h2)⟩
theorem opL_ok (hq : qOk ns b) (k : Nat) : gO ns b (opL ns b k) := by
  obtain ⟨h1, h2⟩ := lev_ok hq k
  have hn := hq.2.1.1.1
  exact rdO_ok hq (rdP_ok (by omega) hq.1.1 h2) h1 h2
/-- at the end of the buffer nothing can be read -/
theorem rdS_end {E : Nat → Option (Nat × Ev)} {p : Nat} (hp : b.length ≤ p) : rdS ns b E p = none := by
  have h0 : b.getD p 0 = 0 := getD_ge hp
  have hn : nmE b p = p := by
    unfold nmE
    rw [h0, if_neg (by decide)]
  have hA : rdA b p = some (0, p) := by
    unfold rdA
    rw [h0, if_neg (by decide), if_pos hn]
  have hK : rdK b p = none := by
    unfold rdK
    rw [h0, if_neg (by decide), if_pos hn]
  unfold rdS
  rw [h0, if_neg (by decide), hA]
  show (match rdK b p with | none => none | some y => _) = _
  rw [hK]
theorem rdL_end {E : Nat → Option (Nat × Ev)} {n p : Nat} (hp : b.length ≤ p) : rdL ns b E n p = none := by
  have h0 : b.getD p 0 = 0 := getD_ge hp
  cases n with
  | zero => rfl
  | succ n =>
    unfold rdL dsP
    rw [h0, if_neg (by decide), rdS_end hp]
theorem rdP_end {E : Nat → Option (Nat × Ev)} {p : Nat} (hp : b.length ≤ p) : rdP ns b E p = none := by
  have h0 : b.getD p 0 = 0 := getD_ge hp
  unfold rdP
  rw [h0, if_neg (by decide), rdL_end hp]
end GOK
