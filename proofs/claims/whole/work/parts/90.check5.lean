set_option maxRecDepth 100000 in
theorem ck_M143 : okM 143 = true := by decide +kernel
set_option maxRecDepth 100000 in
theorem ck_M144 : okM 144 = true := by decide +kernel
set_option maxRecDepth 100000 in
theorem ck_M145 : okM 145 = true := by decide +kernel
set_option maxRecDepth 100000 in
theorem ck_M146 : okM 146 = true := by decide +kernel
set_option maxRecDepth 100000 in
theorem ck_M147 : okM 147 = true := by decide +kernel
set_option maxRecDepth 100000 in
theorem ck_M148 : okM 148 = true := by decide +kernel
set_option maxRecDepth 100000 in
theorem ck_M149 : okM 149 = true := by decide +kernel
set_option maxRecDepth 100000 in
theorem ck_M150 : okM 150 = true := by decide +kernel
set_option maxRecDepth 100000 in
theorem ck_M151 : okM 151 = true := by decide +kernel
set_option maxRecDepth 100000 in
theorem ck_M152 : okM 152 = true := by decide +kernel
set_option maxRecDepth 100000 in
theorem ck_M153 : okM 153 = true := by decide +kernel
set_option maxRecDepth 100000 in
theorem ck_M154 : okM 154 = true := by decide +kernel
set_option maxRecDepth 100000 in
theorem ck_M155 : okM 155 = true := by decide +kernel
set_option maxRecDepth 100000 in
theorem ck_M156 : okM 156 = true := by decide +kernel
set_option maxRecDepth 100000 in
theorem ck_M157 : okM 157 = true := by decide +kernel
set_option maxRecDepth 100000 in
theorem ck_M158 : okM 158 = true := by decide +kernel
set_option maxRecDepth 100000 in
theorem ck_M159 : okM 159 = true := by decide +kernel
set_option maxRecDepth 100000 in
theorem ck_M160 : okM 160 = true := by decide +kernel
set_option maxRecDepth 100000 in
theorem ck_M161 : okM 161 = true := by decide +kernel
set_option maxRecDepth 100000 in
theorem ck_M162 : okM 162 = true := by decide +kernel
set_option maxRecDepth 100000 in
theorem ck_M163 : okM 163 = true := by decide +kernel
set_option maxRecDepth 100000 in
theorem ck_M164 : okM 164 = true := by decide +kernel
set_option maxRecDepth 100000 in
theorem ck_M165 : okM 165 = true := by decide +kernel
set_option maxRecDepth 100000 in
theorem ck_M166 : okM 166 = true := by decide +kernel
set_option maxRecDepth 100000 in
theorem ck_M167 : okM 167 = true := by decide +kernel
theorem ck_5 : ∀ M ∈ List.range' 143 25, okM M = true := by
  rw [show List.range' 143 25 = [143, 144, 145, 146, 147, 148, 149, 150, 151, 152, 153, 154, 155, 156, 157, 158, 159, 160, 161, 162, 163, 164, 165, 166, 167] from rfl]
  exact List.forall_mem_cons.mpr ⟨ck_M143, List.forall_mem_cons.mpr ⟨ck_M144, List.forall_mem_cons.mpr ⟨ck_M145, List.forall_mem_cons.mpr ⟨ck_M146, List.forall_mem_cons.mpr ⟨ck_M147, List.forall_mem_cons.mpr ⟨ck_M148, List.forall_mem_cons.mpr ⟨ck_M149, List.forall_mem_cons.mpr ⟨ck_M150, List.forall_mem_cons.mpr ⟨ck_M151, List.forall_mem_cons.mpr ⟨ck_M152, List.forall_mem_cons.mpr ⟨ck_M153, List.forall_mem_cons.mpr ⟨ck_M154, List.forall_mem_cons.mpr ⟨ck_M155, List.forall_mem_cons.mpr ⟨ck_M156, List.forall_mem_cons.mpr ⟨ck_M157, List.forall_mem_cons.mpr ⟨ck_M158, List.forall_mem_cons.mpr ⟨ck_M159, List.forall_mem_cons.mpr ⟨ck_M160, List.forall_mem_cons.mpr ⟨ck_M161, List.forall_mem_cons.mpr ⟨ck_M162, List.forall_mem_cons.mpr ⟨ck_M163, List.forall_mem_cons.mpr ⟨ck_M164, List.forall_mem_cons.mpr ⟨ck_M165, List.forall_mem_cons.mpr ⟨ck_M166, List.forall_mem_cons.mpr ⟨ck_M167, fun _ h => absurd h List.not_mem_nil⟩⟩⟩⟩⟩⟩⟩⟩⟩⟩⟩⟩⟩⟩⟩⟩⟩⟩⟩⟩⟩⟩⟩⟩⟩
