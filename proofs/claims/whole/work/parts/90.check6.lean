set_option maxRecDepth 100000 in
theorem ck_M168 : okM 168 = true := by decide +kernel
set_option maxRecDepth 100000 in
theorem ck_M169 : okM 169 = true := by decide +kernel
set_option maxRecDepth 100000 in
theorem ck_M170 : okM 170 = true := by decide +kernel
set_option maxRecDepth 100000 in
theorem ck_M171 : okM 171 = true := by decide +kernel
set_option maxRecDepth 100000 in
theorem ck_M172 : okM 172 = true := by decide +kernel
set_option maxRecDepth 100000 in
theorem ck_M173 : okM 173 = true := by decide +kernel
set_option maxRecDepth 100000 in
theorem ck_M174 : okM 174 = true := by decide +kernel
set_option maxRecDepth 100000 in
theorem ck_M175 : okM 175 = true := by decide +kernel
set_option maxRecDepth 100000 in
theorem ck_M176 : okM 176 = true := by decide +kernel
set_option maxRecDepth 100000 in
theorem ck_M177 : okM 177 = true := by decide +kernel
set_option maxRecDepth 100000 in
theorem ck_M178 : okM 178 = true := by decide +kernel
set_option maxRecDepth 100000 in
theorem ck_M179 : okM 179 = true := by decide +kernel
set_option maxRecDepth 100000 in
theorem ck_M180 : okM 180 = true := by decide +kernel
set_option maxRecDepth 100000 in
theorem ck_M181 : okM 181 = true := by decide +kernel
set_option maxRecDepth 100000 in
theorem ck_M182 : okM 182 = true := by decide +kernel
set_option maxRecDepth 100000 in
theorem ck_M183 : okM 183 = true := by decide +kernel
set_option maxRecDepth 100000 in
theorem ck_M184 : okM 184 = true := by decide +kernel
set_option maxRecDepth 100000 in
theorem ck_M185 : okM 185 = true := by decide +kernel
set_option maxRecDepth 100000 in
theorem ck_M186 : okM 186 = true := by decide +kernel
set_option maxRecDepth 100000 in
theorem ck_M187 : okM 187 = true := by decide +kernel
set_option maxRecDepth 100000 in
theorem ck_M188 : okM 188 = true := by decide +kernel
set_option maxRecDepth 100000 in
theorem ck_M189 : okM 189 = true := by decide +kernel
set_option maxRecDepth 100000 in
theorem ck_M190 : okM 190 = true := by decide +kernel
set_option maxRecDepth 100000 in
theorem ck_M191 : okM 191 = true := by decide +kernel
set_option maxRecDepth 100000 in
theorem ck_M192 : okM 192 = true := by decide +kernel
set_option maxRecDepth 100000 in
theorem ck_M193 : okM 193 = true := by decide +kernel
set_option maxRecDepth 100000 in
theorem ck_M194 : okM 194 = true := by decide +kernel
set_option maxRecDepth 100000 in
theorem ck_M195 : okM 195 = true := by decide +kernel
theorem ck_6 : ∀ M ∈ List.range' 168 28, okM M = true := by
  rw [show List.range' 168 28 = [168, 169, 170, 171, 172, 173, 174, 175, 176, 177, 178, 179, 180, 181, 182, 183, 184, 185, 186, 187, 188, 189, 190, 191, 192, 193, 194, 195] from rfl]
  exact List.forall_mem_cons.mpr ⟨ck_M168, List.forall_mem_cons.mpr ⟨ck_M169, List.forall_mem_cons.mpr ⟨ck_M170, List.forall_mem_cons.mpr ⟨ck_M171, List.forall_mem_cons.mpr ⟨ck_M172, List.forall_mem_cons.mpr ⟨ck_M173, List.forall_mem_cons.mpr ⟨ck_M174, List.forall_mem_cons.mpr ⟨ck_M175, List.forall_mem_cons.mpr ⟨ck_M176, List.forall_mem_cons.mpr ⟨ck_M177, List.forall_mem_cons.mpr ⟨ck_M178, List.forall_mem_cons.mpr ⟨ck_M179, List.forall_mem_cons.mpr ⟨ck_M180, List.forall_mem_cons.mpr ⟨ck_M181, List.forall_mem_cons.mpr ⟨ck_M182, List.forall_mem_cons.mpr ⟨ck_M183, List.forall_mem_cons.mpr ⟨ck_M184, List.forall_mem_cons.mpr ⟨ck_M185, List.forall_mem_cons.mpr ⟨ck_M186, List.forall_mem_cons.mpr ⟨ck_M187, List.forall_mem_cons.mpr ⟨ck_M188, List.forall_mem_cons.mpr ⟨ck_M189, List.forall_mem_cons.mpr ⟨ck_M190, List.forall_mem_cons.mpr ⟨ck_M191, List.forall_mem_cons.mpr ⟨ck_M192, List.forall_mem_cons.mpr ⟨ck_M193, List.forall_mem_cons.mpr ⟨ck_M194, List.forall_mem_cons.mpr ⟨ck_M195, fun _ h => absurd h List.not_mem_nil⟩⟩⟩⟩⟩⟩⟩⟩⟩⟩⟩⟩⟩⟩⟩⟩⟩⟩⟩⟩⟩⟩⟩⟩⟩⟩⟩⟩
