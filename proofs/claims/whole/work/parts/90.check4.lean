set_option maxRecDepth 100000 in
theorem ck_M108 : okM 108 = true := by decide +kernel
set_option maxRecDepth 100000 in
theorem ck_M109 : okM 109 = true := by decide +kernel
set_option maxRecDepth 100000 in
theorem ck_M110 : okM 110 = true := by decide +kernel
set_option maxRecDepth 100000 in
theorem ck_M111 : okM 111 = true := by decide +kernel
set_option maxRecDepth 100000 in
theorem ck_M112 : okM 112 = true := by decide +kernel
set_option maxRecDepth 100000 in
theorem ck_M113 : okM 113 = true := by decide +kernel
set_option maxRecDepth 100000 in
theorem ck_M114 : okM 114 = true := by decide +kernel
set_option maxRecDepth 100000 in
theorem ck_M115 : okM 115 = true := by decide +kernel
set_option maxRecDepth 100000 in
theorem ck_M116 : okM 116 = true := by decide +kernel
set_option maxRecDepth 100000 in
theorem ck_M117 : okM 117 = true := by decide +kernel
set_option maxRecDepth 100000 in
theorem ck_M118 : okM 118 = true := by decide +kernel
set_option maxRecDepth 100000 in
theorem ck_M119 : okM 119 = true := by decide +kernel
set_option maxRecDepth 100000 in
theorem ck_M120 : okM 120 = true := by decide +kernel
set_option maxRecDepth 100000 in
theorem ck_M121 : okM 121 = true := by decide +kernel
set_option maxRecDepth 100000 in
theorem ck_M122 : okM 122 = true := by decide +kernel
set_option maxRecDepth 100000 in
theorem ck_M123 : okM 123 = true := by decide +kernel
set_option maxRecDepth 100000 in
theorem ck_M124 : okM 124 = true := by decide +kernel
set_option maxRecDepth 100000 in
theorem ck_M125 : okM 125 = true := by decide +kernel
set_option maxRecDepth 100000 in
theorem ck_M126 : okM 126 = true := by decide +kernel
set_option maxRecDepth 100000 in
theorem ck_M127 : okM 127 = true := by decide +kernel
set_option maxRecDepth 100000 in
theorem ck_M128 : okM 128 = true := by decide +kernel
set_option maxRecDepth 100000 in
theorem ck_M129 : okM 129 = true := by decide +kernel
set_option maxRecDepth 100000 in
theorem ck_M130 : okM 130 = true := by decide +kernel
set_option maxRecDepth 100000 in
theorem ck_M131 : okM 131 = true := by decide +kernel
set_option maxRecDepth 100000 in
theorem ck_M132 : okM 132 = true := by decide +kernel
set_option maxRecDepth 100000 in
theorem ck_M133 : okM 133 = true := by decide +kernel
set_option maxRecDepth 100000 in
theorem ck_M134 : okM 134 = true := by decide +kernel
set_option maxRecDepth 100000 in
theorem ck_M135 : okM 135 = true := by decide +kernel
set_option maxRecDepth 100000 in
theorem ck_M136 : okM 136 = true := by decide +kernel
set_option maxRecDepth 100000 in
theorem ck_M137 : okM 137 = true := by decide +kernel
set_option maxRecDepth 100000 in
theorem ck_M138 : okM 138 = true := by decide +kernel
set_option maxRecDepth 100000 in
theorem ck_M139 : okM 139 = true := by decide +kernel
set_option maxRecDepth 100000 in
theorem ck_M140 : okM 140 = true := by decide +kernel
set_option maxRecDepth 100000 in
theorem ck_M141 : okM 141 = true := by decide +kernel
set_option maxRecDepth 100000 in
theorem ck_M142 : okM 142 = true := by decide +kernel
theorem ck_4 : ∀ M ∈ List.range' 108 35, okM M = true := by
  rw [show List.range' 108 35 = [108, 109, 110, 111, 112, 113, 114, 115, 116, 117, 118, 119, 120, 121, 122, 123, 124, 125, 126, 127, 128, 129, 130, 131, 132, 133, 134, 135, 136, 137, 138, 139, 140, 141, 142] from rfl]
  exact List.forall_mem_cons.mpr ⟨ck_M108, List.forall_mem_cons.mpr ⟨ck_M109, List.forall_mem_cons.mpr ⟨ck_M110, List.forall_mem_cons.mpr ⟨ck_M111, List.forall_mem_cons.mpr ⟨ck_M112, List.forall_mem_cons.mpr ⟨ck_M113, List.forall_mem_cons.mpr ⟨ck_M114, List.forall_mem_cons.mpr ⟨ck_M115, List.forall_mem_cons.mpr ⟨ck_M116, List.forall_mem_cons.mpr ⟨ck_M117, List.forall_mem_cons.mpr ⟨ck_M118, List.forall_mem_cons.mpr ⟨ck_M119, List.forall_mem_cons.mpr ⟨ck_M120, List.forall_mem_cons.mpr ⟨ck_M121, List.forall_mem_cons.mpr ⟨ck_M122, List.forall_mem_cons.mpr ⟨ck_M123, List.forall_mem_cons.mpr ⟨ck_M124, List.forall_mem_cons.mpr ⟨ck_M125, List.forall_mem_cons.mpr ⟨ck_M126, List.forall_mem_cons.mpr ⟨ck_M127, List.forall_mem_cons.mpr ⟨ck_M128, List.forall_mem_cons.mpr ⟨ck_M129, List.forall_mem_cons.mpr ⟨ck_M130, List.forall_mem_cons.mpr ⟨ck_M131, List.forall_mem_cons.mpr ⟨ck_M132, List.forall_mem_cons.mpr ⟨ck_M133, List.forall_mem_cons.mpr ⟨ck_M134, List.forall_mem_cons.mpr ⟨ck_M135, List.forall_mem_cons.mpr ⟨ck_M136, List.forall_mem_cons.mpr ⟨ck_M137, List.forall_mem_cons.mpr ⟨ck_M138, List.forall_mem_cons.mpr ⟨ck_M139, List.forall_mem_cons.mpr ⟨ck_M140, List.forall_mem_cons.mpr ⟨ck_M141, List.forall_mem_cons.mpr ⟨ck_M142, fun _ h => absurd h List.not_mem_nil⟩⟩⟩⟩⟩⟩⟩⟩⟩⟩⟩⟩⟩⟩⟩⟩⟩⟩⟩⟩⟩⟩⟩⟩⟩⟩⟩⟩⟩⟩⟩⟩⟩⟩⟩
