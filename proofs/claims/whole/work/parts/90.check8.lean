set_option maxRecDepth 100000 in
theorem ck_M220 : okM 220 = true := by decide +kernel
set_option maxRecDepth 100000 in
theorem ck_M221 : okM 221 = true := by decide +kernel
set_option maxRecDepth 100000 in
theorem ck_M222 : okM 222 = true := by decide +kernel
set_option maxRecDepth 100000 in
theorem ck_M223 : okM 223 = true := by decide +kernel
set_option maxRecDepth 100000 in
theorem ck_M224 : okM 224 = true := by decide +kernel
set_option maxRecDepth 100000 in
theorem ck_M225 : okM 225 = true := by decide +kernel
set_option maxRecDepth 100000 in
theorem ck_M226 : okM 226 = true := by decide +kernel
set_option maxRecDepth 100000 in
theorem ck_M227 : okM 227 = true := by decide +kernel
set_option maxRecDepth 100000 in
theorem ck_M228 : okM 228 = true := by decide +kernel
set_option maxRecDepth 100000 in
theorem ck_M229 : okM 229 = true := by decide +kernel
set_option maxRecDepth 100000 in
theorem ck_M230 : okM 230 = true := by decide +kernel
set_option maxRecDepth 100000 in
theorem ck_M231 : okM 231 = true := by decide +kernel
set_option maxRecDepth 100000 in
theorem ck_M232 : okM 232 = true := by decide +kernel
set_option maxRecDepth 100000 in
theorem ck_M233 : okM 233 = true := by decide +kernel
set_option maxRecDepth 100000 in
theorem ck_M234 : okM 234 = true := by decide +kernel
set_option maxRecDepth 100000 in
theorem ck_M235 : okM 235 = true := by decide +kernel
set_option maxRecDepth 100000 in
theorem ck_M236 : okM 236 = true := by decide +kernel
set_option maxRecDepth 100000 in
theorem ck_M237 : okM 237 = true := by decide +kernel
set_option maxRecDepth 100000 in
theorem ck_M238 : okM 238 = true := by decide +kernel
theorem ck_8 : ∀ M ∈ List.range' 220 19, okM M = true := by
  rw [show List.range' 220 19 = [220, 221, 222, 223, 224, 225, 226, 227, 228, 229, 230, 231, 232, 233, 234, 235, 236, 237, 238] from rfl]
  exact List.forall_mem_cons.mpr ⟨ck_M220, List.forall_mem_cons.mpr ⟨ck_M221, List.forall_mem_cons.mpr ⟨ck_M222, List.forall_mem_cons.mpr ⟨ck_M223, List.forall_mem_cons.mpr ⟨ck_M224, List.forall_mem_cons.mpr ⟨ck_M225, List.forall_mem_cons.mpr ⟨ck_M226, List.forall_mem_cons.mpr ⟨ck_M227, List.forall_mem_cons.mpr ⟨ck_M228, List.forall_mem_cons.mpr ⟨ck_M229, List.forall_mem_cons.mpr ⟨ck_M230, List.forall_mem_cons.mpr ⟨ck_M231, List.forall_mem_cons.mpr ⟨ck_M232, List.forall_mem_cons.mpr ⟨ck_M233, List.forall_mem_cons.mpr ⟨ck_M234, List.forall_mem_cons.mpr ⟨ck_M235, List.forall_mem_cons.mpr ⟨ck_M236, List.forall_mem_cons.mpr ⟨ck_M237, List.forall_mem_cons.mpr ⟨ck_M238, fun _ h => absurd h List.not_mem_nil⟩⟩⟩⟩⟩⟩⟩⟩⟩⟩⟩⟩⟩⟩⟩⟩⟩⟩⟩
