/-! The law from its entry, once the computed loop is known to answer 1. -/
theorem cl_L_7 : Cond.classLink RL 7 RX10 ∈ lwG := mG 143 (by decide +kernel) (by decide +kernel)
theorem cl_L_10 : Cond.classLink RL 10 RX11 ∈ lwG := mG 1214 (by decide +kernel) (by decide +kernel)
theorem ml_L_9 : Cond.methodLink RL 9 yX10_init ∈ lwG := mG 145 (by decide +kernel) (by decide +kernel)
theorem ml_L_12 : Cond.methodLink RL 12 yX11_init ∈ lwG := mG 1216 (by decide +kernel) (by decide +kernel)
theorem mw_X10_init : MW yX10_init cX10_init 1 none 0 := ⟨mG 147 (by decide +kernel) (by decide +kernel), mG 123 (by decide +kernel) (by decide +kernel), by decide +kernel, ⟨by decide +kernel, by decide +kernel⟩, by decide +kernel, by decide⟩
theorem im_X10_init : Cond.instanceMethod yX10_init ∈ lwG := mG 146 (by decide +kernel) (by decide +kernel)
theorem mc_X11_init : Cond.code yX11_init cX11_init 1 none ∈ lw_tbl := List.mem_append_right _ (List.mem_append_right _ (List.mem_append_right _ (List.mem_append_right _ (List.mem_append_right _ (List.mem_append_left _ (List.mem_of_getElem? (i := 136) rfl))))))
theorem mw_X11_init : MW yX11_init cX11_init 1 none 0 := ⟨List.mem_filter.mpr ⟨mc_X11_init, by decide +kernel⟩, mG 134 (by decide +kernel) (by decide +kernel), by decide +kernel, ⟨by decide +kernel, by decide +kernel⟩, by decide +kernel, by decide⟩
theorem im_X11_init : Cond.instanceMethod yX11_init ∈ lwG := mG 1217 (by decide +kernel) (by decide +kernel)
theorem hdX10 : ∀ j, j < 12 → defaultValue (tyX10 j) = if fI 10 j = true then .int 0 else .null := by decide +kernel
theorem win_10 : Cond.instantiable RX10 12 ∈ lwG := mG 144 (by decide +kernel) (by decide +kernel)
theorem wii_10 : Cond.initialized RX10 ∈ lwG := mG 123 (by decide +kernel) (by decide +kernel)
theorem hdX11 : ∀ j, j < 54 → defaultValue (tyX11 j) = if fI 11 j = true then .int 0 else .null := by decide +kernel
theorem win_11 : Cond.instantiable RX11 54 ∈ lwG := mG 1215 (by decide +kernel) (by decide +kernel)
theorem wii_11 : Cond.initialized RX11 ∈ lwG := mG 134 (by decide +kernel) (by decide +kernel)
