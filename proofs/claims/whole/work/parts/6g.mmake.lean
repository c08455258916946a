/-! THE REFERENCE MAKES A NODE; a whole text -/
section MMK
variable {F p : Nat} {b : List Int32} {σ : St} {ds : List Md} {cs : List Int32}
def mMk (σ : St) (n k lv ce : Nat) : St := uI (uI (uI (uI (uI (uI (uI σ 1333 n (Int32.ofNat k)) 1334 n (Int32.ofNat lv)) 1335 n 0) 1336 n 0) 1337 n (Int32.ofNat ce)) 1338 n 0) 1315 22 (Int32.ofNat (n + 1))
theorem mMk_ag {τ : St} {n k lv ce : Nat} (h : agM σ τ) : agM σ (mMk τ n k lv ce) := ((((((h.uA (by decide)).uA (by decide)).uA (by decide)).uA (by decide)).uA (by decide)).uA (by decide)).uF (Or.inl rfl)
theorem f160_e {k lv th : Nat} (h : mRd σ b p ds cs) (hd : ds.length < 31) (ht : th ≤ 1000) : f160 F (Int32.ofNat k) (Int32.ofNat lv) (Int32.ofNat th) σ = if th + ds.length < 30 then oI 1 (mMk σ ds.length k lv cs.length) else oI 0 (uI σ 1315 33 3) := by
  obtain ⟨h1, h2, h3, h4, ⟨h5, h6⟩, h7⟩ := h
  have q1 := oN_n (show ds.length < 2147483648 by omega)
  have i1 : inB (Int32.ofNat ds.length) 31 := oN_rg hd (by decide)
  unfold f160
  rw [ltE, h4, oN_ad]
  by_cases hk : th + ds.length < 30
  · rw [if_pos (show Int32.ofNat (th + ds.length) < 30 from (oN_lt (q := 30) (by omega) (by decide)).mpr hk), if_pos hk, ltE, if_pos i1, ltE, q1]
    unfold mMk
    generalize e0 : uI σ 1333 ds.length (Int32.ofNat k) = τ0
    have c0 : τ0.1 1315 22 = Int32.ofNat ds.length := by rw [← e0, u_ne (by decide)]; exact h4
    have d0 : τ0.1 1315 23 = Int32.ofNat cs.length := by rw [← e0, u_ne (by decide)]; exact h5
    rw [ltE, c0, if_pos i1, ltE, q1]
    generalize e1 : uI τ0 1334 ds.length (Int32.ofNat lv) = τ1
    have c1 : τ1.1 1315 22 = Int32.ofNat ds.length := by rw [← e1, u_ne (by decide)]; exact c0
    have d1 : τ1.1 1315 23 = Int32.ofNat cs.length := by rw [← e1, u_ne (by decide)]; exact d0
    rw [ltE, c1, if_pos i1, ltE, q1]
    generalize e2 : uI τ1 1335 ds.length 0 = τ2
    have c2 : τ2.1 1315 22 = Int32.ofNat ds.length := by rw [← e2, u_ne (by decide)]; exact c1
    have d2 : τ2.1 1315 23 = Int32.ofNat cs.length := by rw [← e2, u_ne (by decide)]; exact d1
    rw [ltE, c2, if_pos i1, ltE, q1]
    generalize e3 : uI τ2 1336 ds.length 0 = τ3
    have c3 : τ3.1 1315 22 = Int32.ofNat ds.length := by rw [← e3, u_ne (by decide)]; exact c2
    have d3 : τ3.1 1315 23 = Int32.ofNat cs.length := by rw [← e3, u_ne (by decide)]; exact d2
    rw [ltE, c3, ltE, d3, if_pos i1, ltE, q1]
    generalize e4 : uI τ3 1337 ds.length (Int32.ofNat cs.length) = τ4
    have c4 : τ4.1 1315 22 = Int32.ofNat ds.length := by rw [← e4, u_ne (by decide)]; exact c3
    have d4 : τ4.1 1315 23 = Int32.ofNat cs.length := by rw [← e4, u_ne (by decide)]; exact d3
    rw [ltE, c4, if_pos i1, ltE, q1]
    generalize e5 : uI τ4 1338 ds.length 0 = τ5
    have c5 : τ5.1 1315 22 = Int32.ofNat ds.length := by rw [← e5, u_ne (by decide)]; exact c4
    have d5 : τ5.1 1315 23 = Int32.ofNat cs.length := by rw [← e5, u_ne (by decide)]; exact d4
    rw [ltE, c5, oN_p1, ltE]
  · rw [if_neg (show ¬ Int32.ofNat (th + ds.length) < 30 from fun hh => hk ((oN_lt (q := 30) (by omega) (by decide)).mp hh)), if_neg hk, f154_e h3, cIo, if_pos (Or.inl rfl)]
theorem mRd.mk {k lv : Nat} (h : mRd σ b p ds cs) : mRd (mMk σ ds.length k lv cs.length) b p (ds ++ [(k, lv, 0, 0, cs.length, 0)]) cs := by
  obtain ⟨h1, h2, h3, h4, ⟨h5, h6⟩, h7⟩ := h
  unfold mMk
  refine ⟨⟨?_, fun j hj => ?_⟩, ?_, ?_, ?_, ⟨?_, fun j hj => ?_⟩, fun i x hx => ?_⟩
  · rw [u_at, if_neg (by decide), u_ne (by decide), u_ne (by decide), u_ne (by decide), u_ne (by decide), u_ne (by decide), u_ne (by decide)]
    exact h1.1
  · rw [u_ne (by decide), u_ne (by decide), u_ne (by decide), u_ne (by decide), u_ne (by decide), u_ne (by decide), u_ne (by decide)]
    exact h1.2 j hj
  · rw [u_at, if_neg (by decide), u_ne (by decide), u_ne (by decide), u_ne (by decide), u_ne (by decide), u_ne (by decide), u_ne (by decide)]
    exact h2
  · rw [u_at, if_neg (by decide), u_ne (by decide), u_ne (by decide), u_ne (by decide), u_ne (by decide), u_ne (by decide), u_ne (by decide)]
    exact h3
  · rw [u_eq, List.length_append]
    rfl
  · rw [u_at, if_neg (by decide), u_ne (by decide), u_ne (by decide), u_ne (by decide), u_ne (by decide), u_ne (by decide), u_ne (by decide)]
    exact h5
  · rw [u_ne (by decide), u_ne (by decide), u_ne (by decide), u_ne (by decide), u_ne (by decide), u_ne (by decide), u_ne (by decide)]
    exact h6 j hj
  · have k0 : (uI (uI (uI (uI (uI (uI (uI σ 1333 ds.length (Int32.ofNat k)) 1334 ds.length (Int32.ofNat lv)) 1335 ds.length 0) 1336 ds.length 0) 1337 ds.length (Int32.ofNat cs.length)) 1338 ds.length 0) 1315 22 (Int32.ofNat (ds.length + 1))).1 1333 i = if i = ds.length then (Int32.ofNat k) else σ.1 1333 i := by
      rw [u_ne (by decide), u_ne (by decide), u_ne (by decide), u_ne (by decide), u_ne (by decide), u_ne (by decide), u_at]
    have k1 : (uI (uI (uI (uI (uI (uI (uI σ 1333 ds.length (Int32.ofNat k)) 1334 ds.length (Int32.ofNat lv)) 1335 ds.length 0) 1336 ds.length 0) 1337 ds.length (Int32.ofNat cs.length)) 1338 ds.length 0) 1315 22 (Int32.ofNat (ds.length + 1))).1 1334 i = if i = ds.length then (Int32.ofNat lv) else σ.1 1334 i := by
      rw [u_ne (by decide), u_ne (by decide), u_ne (by decide), u_ne (by decide), u_ne (by decide), u_at, u_ne (by decide)]
    have k2 : (uI (uI (uI (uI (uI (uI (uI σ 1333 ds.length (Int32.ofNat k)) 1334 ds.length (Int32.ofNat lv)) 1335 ds.length 0) 1336 ds.length 0) 1337 ds.length (Int32.ofNat cs.length)) 1338 ds.length 0) 1315 22 (Int32.ofNat (ds.length + 1))).1 1335 i = if i = ds.length then 0 else σ.1 1335 i := by
      rw [u_ne (by decide), u_ne (by decide), u_ne (by decide), u_ne (by decide), u_at, u_ne (by decide), u_ne (by decide)]
    have k3 : (uI (uI (uI (uI (uI (uI (uI σ 1333 ds.length (Int32.ofNat k)) 1334 ds.length (Int32.ofNat lv)) 1335 ds.length 0) 1336 ds.length 0) 1337 ds.length (Int32.ofNat cs.length)) 1338 ds.length 0) 1315 22 (Int32.ofNat (ds.length + 1))).1 1336 i = if i = ds.length then 0 else σ.1 1336 i := by
      rw [u_ne (by decide), u_ne (by decide), u_ne (by decide), u_at, u_ne (by decide), u_ne (by decide), u_ne (by decide)]
    have k4 : (uI (uI (uI (uI (uI (uI (uI σ 1333 ds.length (Int32.ofNat k)) 1334 ds.length (Int32.ofNat lv)) 1335 ds.length 0) 1336 ds.length 0) 1337 ds.length (Int32.ofNat cs.length)) 1338 ds.length 0) 1315 22 (Int32.ofNat (ds.length + 1))).1 1337 i = if i = ds.length then (Int32.ofNat cs.length) else σ.1 1337 i := by
      rw [u_ne (by decide), u_ne (by decide), u_at, u_ne (by decide), u_ne (by decide), u_ne (by decide), u_ne (by decide)]
    have k5 : (uI (uI (uI (uI (uI (uI (uI σ 1333 ds.length (Int32.ofNat k)) 1334 ds.length (Int32.ofNat lv)) 1335 ds.length 0) 1336 ds.length 0) 1337 ds.length (Int32.ofNat cs.length)) 1338 ds.length 0) 1315 22 (Int32.ofNat (ds.length + 1))).1 1338 i = if i = ds.length then 0 else σ.1 1338 i := by
      rw [u_ne (by decide), u_at, u_ne (by decide), u_ne (by decide), u_ne (by decide), u_ne (by decide), u_ne (by decide)]
    rw [k0, k1, k2, k3, k4, k5]
    by_cases hi : i = ds.length
    · subst hi
      rw [List.getElem?_append_right (Nat.le_refl _), Nat.sub_self] at hx
      cases hx
      rw [if_pos rfl, if_pos rfl, if_pos rfl, if_pos rfl, if_pos rfl, if_pos rfl]
      exact ⟨rfl, rfl, rfl, rfl, rfl, rfl⟩
    · have hl : i < ds.length := by
        have h8 := (List.getElem?_eq_some_iff.mp hx).1
        rw [List.length_append, List.length_cons, List.length_nil] at h8
        omega
      rw [List.getElem?_append_left hl] at hx
      rw [if_neg hi, if_neg hi, if_neg hi, if_neg hi, if_neg hi, if_neg hi]
      exact h7 i x hx
theorem mRd.na {x : Md} {v : Nat} (h : mRd σ b p (ds ++ [x]) cs) : mRd (uI σ 1335 ds.length (Int32.ofNat v)) b p (ds ++ [(x.1, x.2.1, v, x.2.2.2.1, x.2.2.2.2.1, x.2.2.2.2.2)]) cs := by
  obtain ⟨h1, h2, h3, h4, ⟨h5, h6⟩, h7⟩ := h
  refine ⟨⟨?_, fun j hj => ?_⟩, ?_, ?_, ?_, ⟨?_, fun j hj => ?_⟩, fun i y hy => ?_⟩
  · rw [u_ne (by decide)]
    exact h1.1
  · rw [u_ne (by decide)]
    exact h1.2 j hj
  · rw [u_ne (by decide)]
    exact h2
  · rw [u_ne (by decide)]
    exact h3
  · rw [u_ne (by decide), h4, List.length_append, List.length_append]
    rfl
  · rw [u_ne (by decide)]
    exact h5
  · rw [u_ne (by decide)]
    exact h6 j hj
  · have hl : i < ds.length + 1 := by
      have h8 := (List.getElem?_eq_some_iff.mp hy).1
      rw [List.length_append, List.length_cons, List.length_nil] at h8
      omega
    rw [u_ne (by decide), u_ne (by decide), u_at, u_ne (by decide), u_ne (by decide), u_ne (by decide)]
    by_cases hi : i = ds.length
    · subst hi
      rw [List.getElem?_append_right (Nat.le_refl _), Nat.sub_self] at hy
      cases hy
      have h9 := h7 ds.length x (by rw [List.getElem?_append_right (Nat.le_refl _), Nat.sub_self]; rfl)
      rw [if_pos rfl]
      exact ⟨h9.1, h9.2.1, rfl, h9.2.2.2.1, h9.2.2.2.2.1, h9.2.2.2.2.2⟩
    · rw [List.getElem?_append_left (by omega)] at hy
      rw [if_neg hi]
      exact h7 i y (by rw [List.getElem?_append_left (by omega)]; exact hy)
theorem mRd.nl {x : Md} {v : Nat} (h : mRd σ b p (ds ++ [x]) cs) : mRd (uI σ 1336 ds.length (Int32.ofNat v)) b p (ds ++ [(x.1, x.2.1, x.2.2.1, v, x.2.2.2.2.1, x.2.2.2.2.2)]) cs := by
  obtain ⟨h1, h2, h3, h4, ⟨h5, h6⟩, h7⟩ := h
  refine ⟨⟨?_, fun j hj => ?_⟩, ?_, ?_, ?_, ⟨?_, fun j hj => ?_⟩, fun i y hy => ?_⟩
  · rw [u_ne (by decide)]
    exact h1.1
  · rw [u_ne (by decide)]
    exact h1.2 j hj
  · rw [u_ne (by decide)]
    exact h2
  · rw [u_ne (by decide)]
    exact h3
  · rw [u_ne (by decide), h4, List.length_append, List.length_append]
    rfl
  · rw [u_ne (by decide)]
    exact h5
  · rw [u_ne (by decide)]
    exact h6 j hj
  · have hl : i < ds.length + 1 := by
      have h8 := (List.getElem?_eq_some_iff.mp hy).1
      rw [List.length_append, List.length_cons, List.length_nil] at h8
      omega
    rw [u_ne (by decide), u_ne (by decide), u_ne (by decide), u_at, u_ne (by decide), u_ne (by decide)]
    by_cases hi : i = ds.length
    · subst hi
      rw [List.getElem?_append_right (Nat.le_refl _), Nat.sub_self] at hy
      cases hy
      have h9 := h7 ds.length x (by rw [List.getElem?_append_right (Nat.le_refl _), Nat.sub_self]; rfl)
      rw [if_pos rfl]
      exact ⟨h9.1, h9.2.1, h9.2.2.1, rfl, h9.2.2.2.2.1, h9.2.2.2.2.2⟩
    · rw [List.getElem?_append_left (by omega)] at hy
      rw [if_neg hi]
      exact h7 i y (by rw [List.getElem?_append_left (by omega)]; exact hy)
theorem mRd.ta {x : Md} {v : Nat} (h : mRd σ b p (ds ++ [x]) cs) : mRd (uI σ 1337 ds.length (Int32.ofNat v)) b p (ds ++ [(x.1, x.2.1, x.2.2.1, x.2.2.2.1, v, x.2.2.2.2.2)]) cs := by
  obtain ⟨h1, h2, h3, h4, ⟨h5, h6⟩, h7⟩ := h
  refine ⟨⟨?_, fun j hj => ?_⟩, ?_, ?_, ?_, ⟨?_, fun j hj => ?_⟩, fun i y hy => ?_⟩
  · rw [u_ne (by decide)]
    exact h1.1
  · rw [u_ne (by decide)]
    exact h1.2 j hj
  · rw [u_ne (by decide)]
    exact h2
  · rw [u_ne (by decide)]
    exact h3
  · rw [u_ne (by decide), h4, List.length_append, List.length_append]
    rfl
  · rw [u_ne (by decide)]
    exact h5
  · rw [u_ne (by decide)]
    exact h6 j hj
  · have hl : i < ds.length + 1 := by
      have h8 := (List.getElem?_eq_some_iff.mp hy).1
      rw [List.length_append, List.length_cons, List.length_nil] at h8
      omega
    rw [u_ne (by decide), u_ne (by decide), u_ne (by decide), u_ne (by decide), u_at, u_ne (by decide)]
    by_cases hi : i = ds.length
    · subst hi
      rw [List.getElem?_append_right (Nat.le_refl _), Nat.sub_self] at hy
      cases hy
      have h9 := h7 ds.length x (by rw [List.getElem?_append_right (Nat.le_refl _), Nat.sub_self]; rfl)
      rw [if_pos rfl]
      exact ⟨h9.1, h9.2.1, h9.2.2.1, h9.2.2.2.1, rfl, h9.2.2.2.2.2⟩
    · rw [List.getElem?_append_left (by omega)] at hy
      rw [if_neg hi]
      exact h7 i y (by rw [List.getElem?_append_left (by omega)]; exact hy)
theorem mRd.tl {x : Md} {v : Nat} (h : mRd σ b p (ds ++ [x]) cs) : mRd (uI σ 1338 ds.length (Int32.ofNat v)) b p (ds ++ [(x.1, x.2.1, x.2.2.1, x.2.2.2.1, x.2.2.2.2.1, v)]) cs := by
  obtain ⟨h1, h2, h3, h4, ⟨h5, h6⟩, h7⟩ := h
  refine ⟨⟨?_, fun j hj => ?_⟩, ?_, ?_, ?_, ⟨?_, fun j hj => ?_⟩, fun i y hy => ?_⟩
  · rw [u_ne (by decide)]
    exact h1.1
  · rw [u_ne (by decide)]
    exact h1.2 j hj
  · rw [u_ne (by decide)]
    exact h2
  · rw [u_ne (by decide)]
    exact h3
  · rw [u_ne (by decide), h4, List.length_append, List.length_append]
    rfl
  · rw [u_ne (by decide)]
    exact h5
  · rw [u_ne (by decide)]
    exact h6 j hj
  · have hl : i < ds.length + 1 := by
      have h8 := (List.getElem?_eq_some_iff.mp hy).1
      rw [List.length_append, List.length_cons, List.length_nil] at h8
      omega
    rw [u_ne (by decide), u_ne (by decide), u_ne (by decide), u_ne (by decide), u_ne (by decide), u_at]
    by_cases hi : i = ds.length
    · subst hi
      rw [List.getElem?_append_right (Nat.le_refl _), Nat.sub_self] at hy
      cases hy
      have h9 := h7 ds.length x (by rw [List.getElem?_append_right (Nat.le_refl _), Nat.sub_self]; rfl)
      rw [if_pos rfl]
      exact ⟨h9.1, h9.2.1, h9.2.2.1, h9.2.2.2.1, h9.2.2.2.2.1, rfl⟩
    · rw [List.getElem?_append_left (by omega)] at hy
      rw [if_neg hi]
      exact h7 i y (by rw [List.getElem?_append_left (by omega)]; exact hy)
/-- a whole text -/
theorem f170_e {lv th : Nat} (hF : 500 ≤ F) (hb : b.length ≤ 120) (hO : okB b) (h : mRd σ b p ds cs) (hd : ds.length ≤ 30) (ht : th ≤ 30) (hc : cs.length ≤ p) (hp : p < b.length) :
    match sTx b (30 - th) ds.length p with
    | .inl c => ∃ τ, f170 F (Int32.ofNat lv) (Int32.ofNat th) σ = oI 0 τ ∧ agM σ τ ∧ τ.1 1315 33 = (if c = 10 then 1 else 3)
    | .inr x => ∃ τ, f170 F (Int32.ofNat lv) (Int32.ofNat th) σ = oI 1 τ ∧ agM σ τ ∧ mRd τ b x.1 (ds ++ [(3, lv, 0, 0, cs.length, x.2.length)]) (cs ++ x.2) := by
  unfold sTx f170
  rw [if_neg (fun hh => hh hp)]
  have e0 := f160_e (F := F) (k := 3) (lv := lv) (th := th) h (by omega) (by omega)
  have e0' : f160 F 3 (Int32.ofNat lv) (Int32.ofNat th) σ = _ := e0
  rw [e0']
  by_cases hk : th + ds.length < 30
  · rw [if_pos hk, cIo, if_neg (show ¬ (1 : Int32) = 0 by decide), if_neg (show ¬ ¬ ds.length < 30 - th from fun hh => hh (by omega))]
    have h2 := h.mk (k := 3) (lv := lv)
    have ag1 : agM σ (mMk σ ds.length 3 lv cs.length) := mMk_ag agM.refl
    rw [ltE, h2.2.2.2.1, List.length_append, List.length_cons, List.length_nil, show Int32.ofNat (ds.length + (0 + 1)) - 1 = Int32.ofNat ds.length by rw [show (1 : Int32) = Int32.ofNat 1 from rfl, oN_sb (by omega)]; rfl]
    obtain ⟨k, hk2⟩ : ∃ k, F = k + 200 := ⟨F - 200, by omega⟩
    have a0 := f170_19_e (F := F) (s := Int32.ofNat ds.length) hb hO 200 k p _ cs h2 (by omega) (by omega) (by omega)
    have a1 : ∀ G, G = k + 200 → ((rdT b stT 200 p = none ∧ ∃ τ, f170_19 F G (Int32.ofNat ds.length) (mMk σ ds.length 3 lv cs.length) = oI 0 τ ∧ agM (mMk σ ds.length 3 lv cs.length) τ ∧ τ.1 1315 33 = 1) ∨ (∃ q es τ, rdT b stT 200 p = some (q, es) ∧ f170_19 F G (Int32.ofNat ds.length) (mMk σ ds.length 3 lv cs.length) = f170_52 F (Int32.ofNat ds.length) τ ∧ agM (mMk σ ds.length 3 lv cs.length) τ ∧ mRd τ b q (ds ++ [(3, lv, 0, 0, cs.length, 0)]) (cs ++ es))) := fun G hG => by
      rw [hG]
      exact a0
    rcases a1 F hk2 with ⟨r1, τ, r2, r3, r4⟩ | ⟨q, es, τ, r1, r2, r3, r4⟩
    · rw [r1]
      exact ⟨τ, r2, ag1.trans r3, r4⟩
    · rw [r1]
      dsimp only
      have q1 := oN_n (show ds.length < 2147483648 by omega)
      have i1 : inB (Int32.ofNat ds.length) 31 := oN_rg (by omega) (by decide)
      have h9 := r4.2.2.2.2.2 ds.length (3, lv, 0, 0, cs.length, 0) (by rw [List.getElem?_append_right (Nat.le_refl _), Nat.sub_self]; rfl)
      have h8 : τ.1 1337 ds.length = Int32.ofNat cs.length := h9.2.2.2.2.1
      refine ⟨uI τ 1338 ds.length (Int32.ofNat es.length), ?_, (ag1.trans r3).uA (by decide), r4.tl⟩
      rw [r2]
      unfold f170_52
      rw [ltE, r4.2.2.2.2.1.1, if_pos i1, ltE, if_pos i1, q1, h8, oN_sb (by rw [List.length_append]; omega), List.length_append, show cs.length + es.length - cs.length = es.length by omega, ltE]
  · rw [if_neg hk, cIo, if_pos rfl, if_pos (show ¬ ds.length < 30 - th by omega)]
    exact ⟨_, rfl, agM.refl.uF (Or.inr (Or.inr (Or.inr rfl))), u_eq⟩
end MMK
