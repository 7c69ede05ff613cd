theorem k_ic_0 : Int32.ofInt (0) = (0 : Int32) := by decide
theorem k_ic_1 : Int32.ofInt (1) = (1 : Int32) := by decide
theorem k_ii_1 (x : Int32) : x + Int32.ofInt (1) = x + (1 : Int32) := by rw [show Int32.ofInt (1) = (1 : Int32) by decide]
theorem lay_X1 : ∀ w ∈ u_ws RX1 TX1 7, w ∈ lw_gw := by decide +kernel
theorem lay_X5 : ∀ w ∈ u_ws RX5 TX5 12, w ∈ lw_gw := by decide +kernel
theorem fa_X1_15 : g_FA RX1 15 1 1 := ⟨RX1, TX1, 7, rfl, by decide, lay_X1, gw_mem 83 (by decide +kernel) (by decide +kernel)⟩
theorem fa_X1_19 : g_FA RX1 19 1 2 := ⟨RX1, TX1, 7, rfl, by decide, lay_X1, gw_mem 86 (by decide +kernel) (by decide +kernel)⟩
theorem fa_X1_29 : g_FA RX1 29 5 0 := ⟨RX5, TX5, 12, rfl, by decide, lay_X5, gw_mem 123 (by decide +kernel) (by decide +kernel)⟩
theorem mc_X1_coolDown : Cond.code yX1_coolDown cX1_coolDown 3 none ∈ lw_gw := gw_mem 419 (by decide +kernel) (by decide +kernel)
theorem mi_X1_coolDown : Cond.instanceMethod yX1_coolDown ∈ lw_gw := gw_mem 417 (by decide +kernel) (by decide +kernel)
theorem me_X1_coolDown : Cond.selects yX1_coolDown.cls yX1_coolDown yX1_coolDown ∈ lw_gw := gw_mem 418 (by decide +kernel) (by decide +kernel)
theorem ini_X1 : Cond.initialized RX1 ∈ lw_gw := gw_mem 43 (by decide +kernel) (by decide +kernel)
theorem mv_X1_34 : g_MV RX1 34 yX1_coolDown cX1_coolDown 3 none 1 := ⟨gw_mem 416 (by decide +kernel) (by decide +kernel), mi_X1_coolDown, me_X1_coolDown, ini_X1, mc_X1_coolDown, ⟨by decide, by decide, by decide +kernel⟩⟩
