/-! what the shape says of every object of a class, by kernel -/
section FK
variable {a : Nat}
def fkB_1 (a : Nat) : Bool := [isI a 1 0, isI a 1 10, isI a 1 11, isI a 1 4, isI a 1 5, isI a 1 9, isJ a 1 8, isM a 1 1, isM a 1 2, isM a 1 3, isM a 1 6, isM a 1 7].all id
set_option maxRecDepth 100000 in
theorem fk_1 (h : isO a 1 = true) : fkB_1 a = true := shO_ok (by decide +kernel) h
theorem fkm_1 {b : Bool} (h : isO a 1 = true) (hb : b ∈ [isI a 1 0, isI a 1 10, isI a 1 11, isI a 1 4, isI a 1 5, isI a 1 9, isJ a 1 8, isM a 1 1, isM a 1 2, isM a 1 3, isM a 1 6, isM a 1 7]) : b = true := List.all_eq_true.mp (fk_1 h) b hb
theorem fk_I1_0 (h : isO a 1 = true) : isI a 1 0 = true := fkm_1 h (by simp)
theorem fk_I1_10 (h : isO a 1 = true) : isI a 1 10 = true := fkm_1 h (by simp)
theorem fk_I1_11 (h : isO a 1 = true) : isI a 1 11 = true := fkm_1 h (by simp)
theorem fk_I1_4 (h : isO a 1 = true) : isI a 1 4 = true := fkm_1 h (by simp)
theorem fk_I1_5 (h : isO a 1 = true) : isI a 1 5 = true := fkm_1 h (by simp)
theorem fk_I1_9 (h : isO a 1 = true) : isI a 1 9 = true := fkm_1 h (by simp)
theorem fk_J1_8 (h : isO a 1 = true) : isJ a 1 8 = true := fkm_1 h (by simp)
theorem fk_M1_1 (h : isO a 1 = true) : isM a 1 1 = true := fkm_1 h (by simp)
theorem fk_M1_2 (h : isO a 1 = true) : isM a 1 2 = true := fkm_1 h (by simp)
theorem fk_M1_3 (h : isO a 1 = true) : isM a 1 3 = true := fkm_1 h (by simp)
theorem fk_M1_6 (h : isO a 1 = true) : isM a 1 6 = true := fkm_1 h (by simp)
theorem fk_M1_7 (h : isO a 1 = true) : isM a 1 7 = true := fkm_1 h (by simp)
def fkB_5 (a : Nat) : Bool := [isA (rfF a 0) 1 (laN (rfF a 0)), isC a 5 0 (rfF a 0), isI a 5 1].all id
set_option maxRecDepth 100000 in
theorem fk_5 (h : isO a 5 = true) : fkB_5 a = true := shO_ok (by decide +kernel) h
theorem fkm_5 {b : Bool} (h : isO a 5 = true) (hb : b ∈ [isA (rfF a 0) 1 (laN (rfF a 0)), isC a 5 0 (rfF a 0), isI a 5 1]) : b = true := List.all_eq_true.mp (fk_5 h) b hb
theorem fk_A5_0 (h : isO a 5 = true) : isA (rfF a 0) 1 (laN (rfF a 0)) = true := fkm_5 h (by simp)
theorem fk_C5_0 (h : isO a 5 = true) : isC a 5 0 (rfF a 0) = true := fkm_5 h (by simp)
theorem fk_I5_1 (h : isO a 5 = true) : isI a 5 1 = true := fkm_5 h (by simp)
def fkB_6 (a : Nat) : Bool := [isA (rfF a 8) 0 30, isC a 6 8 (rfF a 8), isI a 6 1, isI a 6 2, isI a 6 3, isI a 6 7, isM a 6 0, isM a 6 4, isM a 6 5, isM a 6 6].all id
set_option maxRecDepth 100000 in
theorem fk_6 (h : isO a 6 = true) : fkB_6 a = true := shO_ok (by decide +kernel) h
theorem fkm_6 {b : Bool} (h : isO a 6 = true) (hb : b ∈ [isA (rfF a 8) 0 30, isC a 6 8 (rfF a 8), isI a 6 1, isI a 6 2, isI a 6 3, isI a 6 7, isM a 6 0, isM a 6 4, isM a 6 5, isM a 6 6]) : b = true := List.all_eq_true.mp (fk_6 h) b hb
theorem fk_A6_8 (h : isO a 6 = true) : isA (rfF a 8) 0 30 = true := fkm_6 h (by simp)
theorem fk_C6_8 (h : isO a 6 = true) : isC a 6 8 (rfF a 8) = true := fkm_6 h (by simp)
theorem fk_I6_1 (h : isO a 6 = true) : isI a 6 1 = true := fkm_6 h (by simp)
theorem fk_I6_2 (h : isO a 6 = true) : isI a 6 2 = true := fkm_6 h (by simp)
theorem fk_I6_3 (h : isO a 6 = true) : isI a 6 3 = true := fkm_6 h (by simp)
theorem fk_I6_7 (h : isO a 6 = true) : isI a 6 7 = true := fkm_6 h (by simp)
theorem fk_M6_0 (h : isO a 6 = true) : isM a 6 0 = true := fkm_6 h (by simp)
theorem fk_M6_4 (h : isO a 6 = true) : isM a 6 4 = true := fkm_6 h (by simp)
theorem fk_M6_5 (h : isO a 6 = true) : isM a 6 5 = true := fkm_6 h (by simp)
theorem fk_M6_6 (h : isO a 6 = true) : isM a 6 6 = true := fkm_6 h (by simp)
def fkB_8 (a : Nat) : Bool := [isA (rfF a 0) 0 30, isA (rfF a 1) 0 30, isA (rfF a 2) 0 30, isA (rfF a 3) 0 30, isA (rfF a 4) 0 30, isA (rfF a 5) 0 30, isA (rfF a 6) 0 31, isA (rfF a 7) 0 31, isC a 8 0 (rfF a 0), isC a 8 1 (rfF a 1), isC a 8 2 (rfF a 2), isC a 8 3 (rfF a 3), isC a 8 4 (rfF a 4), isC a 8 5 (rfF a 5), isC a 8 6 (rfF a 6), isC a 8 7 (rfF a 7), isC a 8 8 (rfF a 8), isC a 8 9 (rfF a 9), isI a 8 10, isO (rfF a 8) 5, isO (rfF a 9) 5].all id
set_option maxRecDepth 100000 in
theorem fk_8 (h : isO a 8 = true) : fkB_8 a = true := shO_ok (by decide +kernel) h
theorem fkm_8 {b : Bool} (h : isO a 8 = true) (hb : b ∈ [isA (rfF a 0) 0 30, isA (rfF a 1) 0 30, isA (rfF a 2) 0 30, isA (rfF a 3) 0 30, isA (rfF a 4) 0 30, isA (rfF a 5) 0 30, isA (rfF a 6) 0 31, isA (rfF a 7) 0 31, isC a 8 0 (rfF a 0), isC a 8 1 (rfF a 1), isC a 8 2 (rfF a 2), isC a 8 3 (rfF a 3), isC a 8 4 (rfF a 4), isC a 8 5 (rfF a 5), isC a 8 6 (rfF a 6), isC a 8 7 (rfF a 7), isC a 8 8 (rfF a 8), isC a 8 9 (rfF a 9), isI a 8 10, isO (rfF a 8) 5, isO (rfF a 9) 5]) : b = true := List.all_eq_true.mp (fk_8 h) b hb
theorem fk_A8_0 (h : isO a 8 = true) : isA (rfF a 0) 0 30 = true := fkm_8 h (by simp)
theorem fk_A8_1 (h : isO a 8 = true) : isA (rfF a 1) 0 30 = true := fkm_8 h (by simp)
theorem fk_A8_2 (h : isO a 8 = true) : isA (rfF a 2) 0 30 = true := fkm_8 h (by simp)
theorem fk_A8_3 (h : isO a 8 = true) : isA (rfF a 3) 0 30 = true := fkm_8 h (by simp)
theorem fk_A8_4 (h : isO a 8 = true) : isA (rfF a 4) 0 30 = true := fkm_8 h (by simp)
theorem fk_A8_5 (h : isO a 8 = true) : isA (rfF a 5) 0 30 = true := fkm_8 h (by simp)
theorem fk_A8_6 (h : isO a 8 = true) : isA (rfF a 6) 0 31 = true := fkm_8 h (by simp)
theorem fk_A8_7 (h : isO a 8 = true) : isA (rfF a 7) 0 31 = true := fkm_8 h (by simp)
theorem fk_C8_0 (h : isO a 8 = true) : isC a 8 0 (rfF a 0) = true := fkm_8 h (by simp)
theorem fk_C8_1 (h : isO a 8 = true) : isC a 8 1 (rfF a 1) = true := fkm_8 h (by simp)
theorem fk_C8_2 (h : isO a 8 = true) : isC a 8 2 (rfF a 2) = true := fkm_8 h (by simp)
theorem fk_C8_3 (h : isO a 8 = true) : isC a 8 3 (rfF a 3) = true := fkm_8 h (by simp)
theorem fk_C8_4 (h : isO a 8 = true) : isC a 8 4 (rfF a 4) = true := fkm_8 h (by simp)
theorem fk_C8_5 (h : isO a 8 = true) : isC a 8 5 (rfF a 5) = true := fkm_8 h (by simp)
theorem fk_C8_6 (h : isO a 8 = true) : isC a 8 6 (rfF a 6) = true := fkm_8 h (by simp)
theorem fk_C8_7 (h : isO a 8 = true) : isC a 8 7 (rfF a 7) = true := fkm_8 h (by simp)
theorem fk_C8_8 (h : isO a 8 = true) : isC a 8 8 (rfF a 8) = true := fkm_8 h (by simp)
theorem fk_C8_9 (h : isO a 8 = true) : isC a 8 9 (rfF a 9) = true := fkm_8 h (by simp)
theorem fk_I8_10 (h : isO a 8 = true) : isI a 8 10 = true := fkm_8 h (by simp)
theorem fk_O8_8 (h : isO a 8 = true) : isO (rfF a 8) 5 = true := fkm_8 h (by simp)
theorem fk_O8_9 (h : isO a 8 = true) : isO (rfF a 9) 5 = true := fkm_8 h (by simp)
end FK
