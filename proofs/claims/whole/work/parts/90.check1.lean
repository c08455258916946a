set_option maxRecDepth 100000 in
theorem ck_M0 : okM 0 = true := by decide +kernel
set_option maxRecDepth 100000 in
theorem ck_M1 : okM 1 = true := by decide +kernel
set_option maxRecDepth 100000 in
theorem ck_M2 : okM 2 = true := by decide +kernel
set_option maxRecDepth 100000 in
theorem ck_M3 : okM 3 = true := by decide +kernel
set_option maxRecDepth 100000 in
theorem ck_M4 : okM 4 = true := by decide +kernel
set_option maxRecDepth 100000 in
theorem ck_M5 : okM 5 = true := by decide +kernel
set_option maxRecDepth 100000 in
theorem ck_M6 : okM 6 = true := by decide +kernel
set_option maxRecDepth 100000 in
theorem ck_M7 : okM 7 = true := by decide +kernel
set_option maxRecDepth 100000 in
theorem ck_M8 : okM 8 = true := by decide +kernel
set_option maxRecDepth 100000 in
theorem ck_M9 : okM 9 = true := by decide +kernel
set_option maxRecDepth 100000 in
theorem ck_M10 : okM 10 = true := by decide +kernel
set_option maxRecDepth 100000 in
theorem ck_M11 : okM 11 = true := by decide +kernel
set_option maxRecDepth 100000 in
theorem ck_M12 : okM 12 = true := by decide +kernel
set_option maxRecDepth 100000 in
theorem ck_M13 : okM 13 = true := by decide +kernel
set_option maxRecDepth 100000 in
theorem ck_M14 : okM 14 = true := by decide +kernel
set_option maxRecDepth 100000 in
theorem ck_M15 : okM 15 = true := by decide +kernel
set_option maxRecDepth 100000 in
theorem ck_M16 : okM 16 = true := by decide +kernel
set_option maxRecDepth 100000 in
theorem ck_M17 : okM 17 = true := by decide +kernel
set_option maxRecDepth 100000 in
theorem ck_M18 : okM 18 = true := by decide +kernel
set_option maxRecDepth 100000 in
theorem ck_M19 : okM 19 = true := by decide +kernel
set_option maxRecDepth 100000 in
theorem ck_M20 : okM 20 = true := by decide +kernel
set_option maxRecDepth 100000 in
theorem ck_M21 : okM 21 = true := by decide +kernel
set_option maxRecDepth 100000 in
theorem ck_M22 : okM 22 = true := by decide +kernel
set_option maxRecDepth 100000 in
theorem ck_M23 : okM 23 = true := by decide +kernel
set_option maxRecDepth 100000 in
theorem ck_M24 : okM 24 = true := by decide +kernel
set_option maxRecDepth 100000 in
theorem ck_M25 : okM 25 = true := by decide +kernel
set_option maxRecDepth 100000 in
theorem ck_M26 : okM 26 = true := by decide +kernel
set_option maxRecDepth 100000 in
theorem ck_M27 : okM 27 = true := by decide +kernel
set_option maxRecDepth 100000 in
theorem ck_M28 : okM 28 = true := by decide +kernel
set_option maxRecDepth 100000 in
theorem ck_M29 : okM 29 = true := by decide +kernel
set_option maxRecDepth 100000 in
theorem ck_M30 : okM 30 = true := by decide +kernel
set_option maxRecDepth 100000 in
theorem ck_M31 : okM 31 = true := by decide +kernel
set_option maxRecDepth 100000 in
theorem ck_M32 : okM 32 = true := by decide +kernel
set_option maxRecDepth 100000 in
theorem ck_M33 : okM 33 = true := by decide +kernel
set_option maxRecDepth 100000 in
theorem ck_M34 : okM 34 = true := by decide +kernel
set_option maxRecDepth 100000 in
theorem ck_M35 : okM 35 = true := by decide +kernel
set_option maxRecDepth 100000 in
theorem ck_M36 : okM 36 = true := by decide +kernel
set_option maxRecDepth 100000 in
theorem ck_M37 : okM 37 = true := by decide +kernel
theorem ck_1 : ∀ M ∈ List.range' 0 38, okM M = true := by
  rw [show List.range' 0 38 = [0, 1, 2, 3, 4, 5, 6, 7, 8, 9, 10, 11, 12, 13, 14, 15, 16, 17, 18, 19, 20, 21, 22, 23, 24, 25, 26, 27, 28, 29, 30, 31, 32, 33, 34, 35, 36, 37] from rfl]
  exact List.forall_mem_cons.mpr ⟨ck_M0, List.forall_mem_cons.mpr ⟨ck_M1, List.forall_mem_cons.mpr ⟨ck_M2, List.forall_mem_cons.mpr ⟨ck_M3, List.forall_mem_cons.mpr ⟨ck_M4, List.forall_mem_cons.mpr ⟨ck_M5, List.forall_mem_cons.mpr ⟨ck_M6, List.forall_mem_cons.mpr ⟨ck_M7, List.forall_mem_cons.mpr ⟨ck_M8, List.forall_mem_cons.mpr ⟨ck_M9, List.forall_mem_cons.mpr ⟨ck_M10, List.forall_mem_cons.mpr ⟨ck_M11, List.forall_mem_cons.mpr ⟨ck_M12, List.forall_mem_cons.mpr ⟨ck_M13, List.forall_mem_cons.mpr ⟨ck_M14, List.forall_mem_cons.mpr ⟨ck_M15, List.forall_mem_cons.mpr ⟨ck_M16, List.forall_mem_cons.mpr ⟨ck_M17, List.forall_mem_cons.mpr ⟨ck_M18, List.forall_mem_cons.mpr ⟨ck_M19, List.forall_mem_cons.mpr ⟨ck_M20, List.forall_mem_cons.mpr ⟨ck_M21, List.forall_mem_cons.mpr ⟨ck_M22, List.forall_mem_cons.mpr ⟨ck_M23, List.forall_mem_cons.mpr ⟨ck_M24, List.forall_mem_cons.mpr ⟨ck_M25, List.forall_mem_cons.mpr ⟨ck_M26, List.forall_mem_cons.mpr ⟨ck_M27, List.forall_mem_cons.mpr ⟨ck_M28, List.forall_mem_cons.mpr ⟨ck_M29, List.forall_mem_cons.mpr ⟨ck_M30, List.forall_mem_cons.mpr ⟨ck_M31, List.forall_mem_cons.mpr ⟨ck_M32, List.forall_mem_cons.mpr ⟨ck_M33, List.forall_mem_cons.mpr ⟨ck_M34, List.forall_mem_cons.mpr ⟨ck_M35, List.forall_mem_cons.mpr ⟨ck_M36, List.forall_mem_cons.mpr ⟨ck_M37, fun _ h => absurd h List.not_mem_nil⟩⟩⟩⟩⟩⟩⟩⟩⟩⟩⟩⟩⟩⟩⟩⟩⟩⟩⟩⟩⟩⟩⟩⟩⟩⟩⟩⟩⟩⟩⟩⟩⟩⟩⟩⟩⟩⟩
