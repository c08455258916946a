set_option maxRecDepth 100000 in
theorem ck_M196 : okM 196 = true := by decide +kernel
set_option maxRecDepth 100000 in
theorem ck_M197 : okM 197 = true := by decide +kernel
set_option maxRecDepth 100000 in
theorem ck_M198 : okM 198 = true := by decide +kernel
set_option maxRecDepth 100000 in
theorem ck_M199 : okM 199 = true := by decide +kernel
set_option maxRecDepth 100000 in
theorem ck_M200 : okM 200 = true := by decide +kernel
set_option maxRecDepth 100000 in
theorem ck_M201 : okM 201 = true := by decide +kernel
set_option maxRecDepth 100000 in
theorem ck_M202 : okM 202 = true := by decide +kernel
set_option maxRecDepth 100000 in
theorem ck_M203 : okM 203 = true := by decide +kernel
set_option maxRecDepth 100000 in
theorem ck_M204 : okM 204 = true := by decide +kernel
set_option maxRecDepth 100000 in
theorem ck_M205 : okM 205 = true := by decide +kernel
set_option maxRecDepth 100000 in
theorem ck_M206 : okM 206 = true := by decide +kernel
set_option maxRecDepth 100000 in
theorem ck_M207 : okM 207 = true := by decide +kernel
set_option maxRecDepth 100000 in
theorem ck_M208 : okM 208 = true := by decide +kernel
set_option maxRecDepth 100000 in
theorem ck_M209 : okM 209 = true := by decide +kernel
set_option maxRecDepth 100000 in
theorem ck_M210 : okM 210 = true := by decide +kernel
set_option maxRecDepth 100000 in
theorem ck_M211 : okM 211 = true := by decide +kernel
set_option maxRecDepth 100000 in
theorem ck_M212 : okM 212 = true := by decide +kernel
set_option maxRecDepth 100000 in
theorem ck_M213 : okM 213 = true := by decide +kernel
set_option maxRecDepth 100000 in
theorem ck_M214 : okM 214 = true := by decide +kernel
set_option maxRecDepth 100000 in
theorem ck_M215 : okM 215 = true := by decide +kernel
set_option maxRecDepth 100000 in
theorem ck_M216 : okM 216 = true := by decide +kernel
set_option maxRecDepth 100000 in
theorem ck_M217 : okM 217 = true := by decide +kernel
set_option maxRecDepth 100000 in
theorem ck_M218 : okM 218 = true := by decide +kernel
set_option maxRecDepth 100000 in
theorem ck_M219 : okM 219 = true := by decide +kernel
theorem ck_7 : ∀ M ∈ List.range' 196 24, okM M = true := by
  rw [show List.range' 196 24 = [196, 197, 198, 199, 200, 201, 202, 203, 204, 205, 206, 207, 208, 209, 210, 211, 212, 213, 214, 215, 216, 217, 218, 219] from rfl]
  exact List.forall_mem_cons.mpr ⟨ck_M196, List.forall_mem_cons.mpr ⟨ck_M197, List.forall_mem_cons.mpr ⟨ck_M198, List.forall_mem_cons.mpr ⟨ck_M199, List.forall_mem_cons.mpr ⟨ck_M200, List.forall_mem_cons.mpr ⟨ck_M201, List.forall_mem_cons.mpr ⟨ck_M202, List.forall_mem_cons.mpr ⟨ck_M203, List.forall_mem_cons.mpr ⟨ck_M204, List.forall_mem_cons.mpr ⟨ck_M205, List.forall_mem_cons.mpr ⟨ck_M206, List.forall_mem_cons.mpr ⟨ck_M207, List.forall_mem_cons.mpr ⟨ck_M208, List.forall_mem_cons.mpr ⟨ck_M209, List.forall_mem_cons.mpr ⟨ck_M210, List.forall_mem_cons.mpr ⟨ck_M211, List.forall_mem_cons.mpr ⟨ck_M212, List.forall_mem_cons.mpr ⟨ck_M213, List.forall_mem_cons.mpr ⟨ck_M214, List.forall_mem_cons.mpr ⟨ck_M215, List.forall_mem_cons.mpr ⟨ck_M216, List.forall_mem_cons.mpr ⟨ck_M217, List.forall_mem_cons.mpr ⟨ck_M218, List.forall_mem_cons.mpr ⟨ck_M219, fun _ h => absurd h List.not_mem_nil⟩⟩⟩⟩⟩⟩⟩⟩⟩⟩⟩⟩⟩⟩⟩⟩⟩⟩⟩⟩⟩⟩⟩⟩
