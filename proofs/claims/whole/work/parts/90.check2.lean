set_option maxRecDepth 100000 in
theorem ck_M38 : okM 38 = true := by decide +kernel
set_option maxRecDepth 100000 in
theorem ck_M39 : okM 39 = true := by decide +kernel
set_option maxRecDepth 100000 in
theorem ck_M40 : okM 40 = true := by decide +kernel
set_option maxRecDepth 100000 in
theorem ck_M41 : okM 41 = true := by decide +kernel
set_option maxRecDepth 100000 in
theorem ck_M42 : okM 42 = true := by decide +kernel
set_option maxRecDepth 100000 in
theorem ck_M43 : okM 43 = true := by decide +kernel
set_option maxRecDepth 100000 in
theorem ck_M44 : okM 44 = true := by decide +kernel
set_option maxRecDepth 100000 in
theorem ck_M45 : okM 45 = true := by decide +kernel
set_option maxRecDepth 100000 in
theorem ck_M46 : okM 46 = true := by decide +kernel
set_option maxRecDepth 100000 in
theorem ck_M47 : okM 47 = true := by decide +kernel
set_option maxRecDepth 100000 in
theorem ck_M48 : okM 48 = true := by decide +kernel
set_option maxRecDepth 100000 in
theorem ck_M49 : okM 49 = true := by decide +kernel
set_option maxRecDepth 100000 in
theorem ck_M50 : okM 50 = true := by decide +kernel
set_option maxRecDepth 100000 in
theorem ck_M51 : okM 51 = true := by decide +kernel
set_option maxRecDepth 100000 in
theorem ck_M52 : okM 52 = true := by decide +kernel
set_option maxRecDepth 100000 in
theorem ck_M53 : okM 53 = true := by decide +kernel
set_option maxRecDepth 100000 in
theorem ck_M54 : okM 54 = true := by decide +kernel
set_option maxRecDepth 100000 in
theorem ck_M55 : okM 55 = true := by decide +kernel
set_option maxRecDepth 100000 in
theorem ck_M56 : okM 56 = true := by decide +kernel
set_option maxRecDepth 100000 in
theorem ck_M57 : okM 57 = true := by decide +kernel
set_option maxRecDepth 100000 in
theorem ck_M58 : okM 58 = true := by decide +kernel
set_option maxRecDepth 100000 in
theorem ck_M59 : okM 59 = true := by decide +kernel
set_option maxRecDepth 100000 in
theorem ck_M60 : okM 60 = true := by decide +kernel
set_option maxRecDepth 100000 in
theorem ck_M61 : okM 61 = true := by decide +kernel
set_option maxRecDepth 100000 in
theorem ck_M62 : okM 62 = true := by decide +kernel
set_option maxRecDepth 100000 in
theorem ck_M63 : okM 63 = true := by decide +kernel
set_option maxRecDepth 100000 in
theorem ck_M64 : okM 64 = true := by decide +kernel
set_option maxRecDepth 100000 in
theorem ck_M65 : okM 65 = true := by decide +kernel
set_option maxRecDepth 100000 in
theorem ck_M66 : okM 66 = true := by decide +kernel
set_option maxRecDepth 100000 in
theorem ck_M67 : okM 67 = true := by decide +kernel
set_option maxRecDepth 100000 in
theorem ck_M68 : okM 68 = true := by decide +kernel
set_option maxRecDepth 100000 in
theorem ck_M69 : okM 69 = true := by decide +kernel
theorem ck_2 : ∀ M ∈ List.range' 38 32, okM M = true := by
  rw [show List.range' 38 32 = [38, 39, 40, 41, 42, 43, 44, 45, 46, 47, 48, 49, 50, 51, 52, 53, 54, 55, 56, 57, 58, 59, 60, 61, 62, 63, 64, 65, 66, 67, 68, 69] from rfl]
  exact List.forall_mem_cons.mpr ⟨ck_M38, List.forall_mem_cons.mpr ⟨ck_M39, List.forall_mem_cons.mpr ⟨ck_M40, List.forall_mem_cons.mpr ⟨ck_M41, List.forall_mem_cons.mpr ⟨ck_M42, List.forall_mem_cons.mpr ⟨ck_M43, List.forall_mem_cons.mpr ⟨ck_M44, List.forall_mem_cons.mpr ⟨ck_M45, List.forall_mem_cons.mpr ⟨ck_M46, List.forall_mem_cons.mpr ⟨ck_M47, List.forall_mem_cons.mpr ⟨ck_M48, List.forall_mem_cons.mpr ⟨ck_M49, List.forall_mem_cons.mpr ⟨ck_M50, List.forall_mem_cons.mpr ⟨ck_M51, List.forall_mem_cons.mpr ⟨ck_M52, List.forall_mem_cons.mpr ⟨ck_M53, List.forall_mem_cons.mpr ⟨ck_M54, List.forall_mem_cons.mpr ⟨ck_M55, List.forall_mem_cons.mpr ⟨ck_M56, List.forall_mem_cons.mpr ⟨ck_M57, List.forall_mem_cons.mpr ⟨ck_M58, List.forall_mem_cons.mpr ⟨ck_M59, List.forall_mem_cons.mpr ⟨ck_M60, List.forall_mem_cons.mpr ⟨ck_M61, List.forall_mem_cons.mpr ⟨ck_M62, List.forall_mem_cons.mpr ⟨ck_M63, List.forall_mem_cons.mpr ⟨ck_M64, List.forall_mem_cons.mpr ⟨ck_M65, List.forall_mem_cons.mpr ⟨ck_M66, List.forall_mem_cons.mpr ⟨ck_M67, List.forall_mem_cons.mpr ⟨ck_M68, List.forall_mem_cons.mpr ⟨ck_M69, fun _ h => absurd h List.not_mem_nil⟩⟩⟩⟩⟩⟩⟩⟩⟩⟩⟩⟩⟩⟩⟩⟩⟩⟩⟩⟩⟩⟩⟩⟩⟩⟩⟩⟩⟩⟩⟩⟩
