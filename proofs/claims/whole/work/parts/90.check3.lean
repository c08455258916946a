set_option maxRecDepth 100000 in
theorem ck_M70 : okM 70 = true := by decide +kernel
set_option maxRecDepth 100000 in
theorem ck_M71 : okM 71 = true := by decide +kernel
set_option maxRecDepth 100000 in
theorem ck_M72 : okM 72 = true := by decide +kernel
set_option maxRecDepth 100000 in
theorem ck_M73 : okM 73 = true := by decide +kernel
set_option maxRecDepth 100000 in
theorem ck_M74 : okM 74 = true := by decide +kernel
set_option maxRecDepth 100000 in
theorem ck_M75 : okM 75 = true := by decide +kernel
set_option maxRecDepth 100000 in
theorem ck_M76 : okM 76 = true := by decide +kernel
set_option maxRecDepth 100000 in
theorem ck_M77 : okM 77 = true := by decide +kernel
set_option maxRecDepth 100000 in
theorem ck_M78 : okM 78 = true := by decide +kernel
set_option maxRecDepth 100000 in
theorem ck_M79 : okM 79 = true := by decide +kernel
set_option maxRecDepth 100000 in
theorem ck_M80 : okM 80 = true := by decide +kernel
set_option maxRecDepth 100000 in
theorem ck_M81 : okM 81 = true := by decide +kernel
set_option maxRecDepth 100000 in
theorem ck_M82 : okM 82 = true := by decide +kernel
set_option maxRecDepth 100000 in
theorem ck_M83 : okM 83 = true := by decide +kernel
set_option maxRecDepth 100000 in
theorem ck_M84 : okM 84 = true := by decide +kernel
set_option maxRecDepth 100000 in
theorem ck_M85 : okM 85 = true := by decide +kernel
set_option maxRecDepth 100000 in
theorem ck_M86 : okM 86 = true := by decide +kernel
set_option maxRecDepth 100000 in
theorem ck_M87 : okM 87 = true := by decide +kernel
set_option maxRecDepth 100000 in
theorem ck_M88 : okM 88 = true := by decide +kernel
set_option maxRecDepth 100000 in
theorem ck_M89 : okM 89 = true := by decide +kernel
set_option maxRecDepth 100000 in
theorem ck_M90 : okM 90 = true := by decide +kernel
set_option maxRecDepth 100000 in
theorem ck_M91 : okM 91 = true := by decide +kernel
set_option maxRecDepth 100000 in
theorem ck_M92 : okM 92 = true := by decide +kernel
set_option maxRecDepth 100000 in
theorem ck_M93 : okM 93 = true := by decide +kernel
set_option maxRecDepth 100000 in
theorem ck_M94 : okM 94 = true := by decide +kernel
set_option maxRecDepth 100000 in
theorem ck_M95 : okM 95 = true := by decide +kernel
set_option maxRecDepth 100000 in
theorem ck_M96 : okM 96 = true := by decide +kernel
set_option maxRecDepth 100000 in
theorem ck_M97 : okM 97 = true := by decide +kernel
set_option maxRecDepth 100000 in
theorem ck_M98 : okM 98 = true := by decide +kernel
set_option maxRecDepth 100000 in
theorem ck_M99 : okM 99 = true := by decide +kernel
set_option maxRecDepth 100000 in
theorem ck_M100 : okM 100 = true := by decide +kernel
set_option maxRecDepth 100000 in
theorem ck_M101 : okM 101 = true := by decide +kernel
set_option maxRecDepth 100000 in
theorem ck_M102 : okM 102 = true := by decide +kernel
set_option maxRecDepth 100000 in
theorem ck_M103 : okM 103 = true := by decide +kernel
set_option maxRecDepth 100000 in
theorem ck_M104 : okM 104 = true := by decide +kernel
set_option maxRecDepth 100000 in
theorem ck_M105 : okM 105 = true := by decide +kernel
set_option maxRecDepth 100000 in
theorem ck_M106 : okM 106 = true := by decide +kernel
set_option maxRecDepth 100000 in
theorem ck_M107 : okM 107 = true := by decide +kernel
theorem ck_3 : ∀ M ∈ List.range' 70 38, okM M = true := by
  rw [show List.range' 70 38 = [70, 71, 72, 73, 74, 75, 76, 77, 78, 79, 80, 81, 82, 83, 84, 85, 86, 87, 88, 89, 90, 91, 92, 93, 94, 95, 96, 97, 98, 99, 100, 101, 102, 103, 104, 105, 106, 107] from rfl]
  exact List.forall_mem_cons.mpr ⟨ck_M70, List.forall_mem_cons.mpr ⟨ck_M71, List.forall_mem_cons.mpr ⟨ck_M72, List.forall_mem_cons.mpr ⟨ck_M73, List.forall_mem_cons.mpr ⟨ck_M74, List.forall_mem_cons.mpr ⟨ck_M75, List.forall_mem_cons.mpr ⟨ck_M76, List.forall_mem_cons.mpr ⟨ck_M77, List.forall_mem_cons.mpr ⟨ck_M78, List.forall_mem_cons.mpr ⟨ck_M79, List.forall_mem_cons.mpr ⟨ck_M80, List.forall_mem_cons.mpr ⟨ck_M81, List.forall_mem_cons.mpr ⟨ck_M82, List.forall_mem_cons.mpr ⟨ck_M83, List.forall_mem_cons.mpr ⟨ck_M84, List.forall_mem_cons.mpr ⟨ck_M85, List.forall_mem_cons.mpr ⟨ck_M86, List.forall_mem_cons.mpr ⟨ck_M87, List.forall_mem_cons.mpr ⟨ck_M88, List.forall_mem_cons.mpr ⟨ck_M89, List.forall_mem_cons.mpr ⟨ck_M90, List.forall_mem_cons.mpr ⟨ck_M91, List.forall_mem_cons.mpr ⟨ck_M92, List.forall_mem_cons.mpr ⟨ck_M93, List.forall_mem_cons.mpr ⟨ck_M94, List.forall_mem_cons.mpr ⟨ck_M95, List.forall_mem_cons.mpr ⟨ck_M96, List.forall_mem_cons.mpr ⟨ck_M97, List.forall_mem_cons.mpr ⟨ck_M98, List.forall_mem_cons.mpr ⟨ck_M99, List.forall_mem_cons.mpr ⟨ck_M100, List.forall_mem_cons.mpr ⟨ck_M101, List.forall_mem_cons.mpr ⟨ck_M102, List.forall_mem_cons.mpr ⟨ck_M103, List.forall_mem_cons.mpr ⟨ck_M104, List.forall_mem_cons.mpr ⟨ck_M105, List.forall_mem_cons.mpr ⟨ck_M106, List.forall_mem_cons.mpr ⟨ck_M107, fun _ h => absurd h List.not_mem_nil⟩⟩⟩⟩⟩⟩⟩⟩⟩⟩⟩⟩⟩⟩⟩⟩⟩⟩⟩⟩⟩⟩⟩⟩⟩⟩⟩⟩⟩⟩⟩⟩⟩⟩⟩⟩⟩⟩
