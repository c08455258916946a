set_option maxRecDepth 100000 in
theorem ck_M239 : okM 239 = true := by decide +kernel
set_option maxRecDepth 100000 in
theorem ck_M240 : okM 240 = true := by decide +kernel
set_option maxRecDepth 100000 in
theorem ck_M241 : okM 241 = true := by decide +kernel
set_option maxRecDepth 100000 in
theorem ck_M242 : okM 242 = true := by decide +kernel
set_option maxRecDepth 100000 in
theorem ck_M243 : okM 243 = true := by decide +kernel
set_option maxRecDepth 100000 in
theorem ck_M244 : okM 244 = true := by decide +kernel
set_option maxRecDepth 100000 in
theorem ck_M245 : okM 245 = true := by decide +kernel
set_option maxRecDepth 100000 in
theorem ck_M246 : okM 246 = true := by decide +kernel
set_option maxRecDepth 100000 in
theorem ck_M247 : okM 247 = true := by decide +kernel
set_option maxRecDepth 100000 in
theorem ck_M248 : okM 248 = true := by decide +kernel
set_option maxRecDepth 100000 in
theorem ck_M249 : okM 249 = true := by decide +kernel
set_option maxRecDepth 100000 in
theorem ck_M250 : okM 250 = true := by decide +kernel
set_option maxRecDepth 100000 in
theorem ck_M251 : okM 251 = true := by decide +kernel
set_option maxRecDepth 100000 in
theorem ck_M252 : okM 252 = true := by decide +kernel
set_option maxRecDepth 100000 in
theorem ck_M253 : okM 253 = true := by decide +kernel
set_option maxRecDepth 100000 in
theorem ck_M254 : okM 254 = true := by decide +kernel
set_option maxRecDepth 100000 in
theorem ck_M255 : okM 255 = true := by decide +kernel
set_option maxRecDepth 100000 in
theorem ck_M256 : okM 256 = true := by decide +kernel
theorem ck_9 : ∀ M ∈ List.range' 239 18, okM M = true := by
  rw [show List.range' 239 18 = [239, 240, 241, 242, 243, 244, 245, 246, 247, 248, 249, 250, 251, 252, 253, 254, 255, 256] from rfl]
  exact List.forall_mem_cons.mpr ⟨ck_M239, List.forall_mem_cons.mpr ⟨ck_M240, List.forall_mem_cons.mpr ⟨ck_M241, List.forall_mem_cons.mpr ⟨ck_M242, List.forall_mem_cons.mpr ⟨ck_M243, List.forall_mem_cons.mpr ⟨ck_M244, List.forall_mem_cons.mpr ⟨ck_M245, List.forall_mem_cons.mpr ⟨ck_M246, List.forall_mem_cons.mpr ⟨ck_M247, List.forall_mem_cons.mpr ⟨ck_M248, List.forall_mem_cons.mpr ⟨ck_M249, List.forall_mem_cons.mpr ⟨ck_M250, List.forall_mem_cons.mpr ⟨ck_M251, List.forall_mem_cons.mpr ⟨ck_M252, List.forall_mem_cons.mpr ⟨ck_M253, List.forall_mem_cons.mpr ⟨ck_M254, List.forall_mem_cons.mpr ⟨ck_M255, List.forall_mem_cons.mpr ⟨ck_M256, fun _ h => absurd h List.not_mem_nil⟩⟩⟩⟩⟩⟩⟩⟩⟩⟩⟩⟩⟩⟩⟩⟩⟩⟩
