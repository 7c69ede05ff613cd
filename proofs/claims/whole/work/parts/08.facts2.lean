theorem inst_X6 : Cond.instantiable RX6 2 ∈ lw_gw := gw_mem 62 (by decide +kernel) (by decide +kernel)
theorem na_X7_7 : g_NA RX7 7 6 2 [.null, .int 0] := ⟨RX6, TX6, tyX6, rfl, lay_X6, tyX6_ok, gw_mem 61 (by decide +kernel) (by decide +kernel), inst_X6, ini_X6, fun j hj => by match j, hj with | 0, _ => rfl | 1, _ => rfl | j + 2, hj => exact absurd hj (by omega)⟩
theorem inst_X1 : Cond.instantiable RX1 7 ∈ lw_gw := gw_mem 77 (by decide +kernel) (by decide +kernel)
theorem na_X7_16 : g_NA RX7 16 1 7 [.null, .int 0, .int 0, .int 0, .int 0, .int 0, .int 0] := ⟨RX1, TX1, tyX1, rfl, lay_X1, tyX1_ok, gw_mem 76 (by decide +kernel) (by decide +kernel), inst_X1, ini_X1, fun j hj => by match j, hj with | 0, _ => rfl | 1, _ => rfl | 2, _ => rfl | 3, _ => rfl | 4, _ => rfl | 5, _ => rfl | 6, _ => rfl | j + 7, hj => exact absurd hj (by omega)⟩
theorem inst_X5 : Cond.instantiable RX5 12 ∈ lw_gw := gw_mem 117 (by decide +kernel) (by decide +kernel)
theorem na_X7_23 : g_NA RX7 23 5 12 [.null, .null, .null, .int 0, .int 0, .int 0, .int 0, .int 0, .int 0, .int 0, .int 0, .int 0] := ⟨RX5, TX5, tyX5, rfl, lay_X5, tyX5_ok, gw_mem 116 (by decide +kernel) (by decide +kernel), inst_X5, ini_X5, fun j hj => by match j, hj with | 0, _ => rfl | 1, _ => rfl | 2, _ => rfl | 3, _ => rfl | 4, _ => rfl | 5, _ => rfl | 6, _ => rfl | 7, _ => rfl | 8, _ => rfl | 9, _ => rfl | 10, _ => rfl | 11, _ => rfl | j + 12, hj => exact absurd hj (by omega)⟩
theorem inst_X2 : Cond.instantiable RX2 2 ∈ lw_gw := gw_mem 190 (by decide +kernel) (by decide +kernel)
theorem na_X7_36 : g_NA RX7 36 2 2 [.null, .null] := ⟨RX2, TX2, tyX2, rfl, lay_X2, tyX2_ok, gw_mem 189 (by decide +kernel) (by decide +kernel), inst_X2, ini_X2, fun j hj => by match j, hj with | 0, _ => rfl | 1, _ => rfl | j + 2, hj => exact absurd hj (by omega)⟩
theorem inst_X0 : Cond.instantiable RX0 3 ∈ lw_gw := gw_mem 205 (by decide +kernel) (by decide +kernel)
theorem na_X7_43 : g_NA RX7 43 0 3 [.null, .int 0, .int 0] := ⟨RX0, TX0, tyX0, rfl, lay_X0, tyX0_ok, gw_mem 204 (by decide +kernel) (by decide +kernel), inst_X0, ini_X0, fun j hj => by match j, hj with | 0, _ => rfl | 1, _ => rfl | 2, _ => rfl | j + 3, hj => exact absurd hj (by omega)⟩
theorem inst_X3 : Cond.instantiable RX3 4 ∈ lw_gw := gw_mem 225 (by decide +kernel) (by decide +kernel)
theorem na_X7_50 : g_NA RX7 50 3 4 [.null, .null, .null, .int 0] := ⟨RX3, TX3, tyX3, rfl, lay_X3, tyX3_ok, gw_mem 224 (by decide +kernel) (by decide +kernel), inst_X3, ini_X3, fun j hj => by match j, hj with | 0, _ => rfl | 1, _ => rfl | 2, _ => rfl | 3, _ => rfl | j + 4, hj => exact absurd hj (by omega)⟩
theorem inst_X4 : Cond.instantiable RX4 2 ∈ lw_gw := gw_mem 248 (by decide +kernel) (by decide +kernel)
theorem na_X7_57 : g_NA RX7 57 4 2 [.null, .null] := ⟨RX4, TX4, tyX4, rfl, lay_X4, tyX4_ok, gw_mem 247 (by decide +kernel) (by decide +kernel), inst_X4, ini_X4, fun j hj => by match j, hj with | 0, _ => rfl | 1, _ => rfl | j + 2, hj => exact absurd hj (by omega)⟩
theorem na_X0_9 : g_NA RX0 9 5 12 [.null, .null, .null, .int 0, .int 0, .int 0, .int 0, .int 0, .int 0, .int 0, .int 0, .int 0] := ⟨RX5, TX5, tyX5, rfl, lay_X5, tyX5_ok, gw_mem 210 (by decide +kernel) (by decide +kernel), inst_X5, ini_X5, fun j hj => by match j, hj with | 0, _ => rfl | 1, _ => rfl | 2, _ => rfl | 3, _ => rfl | 4, _ => rfl | 5, _ => rfl | 6, _ => rfl | 7, _ => rfl | 8, _ => rfl | 9, _ => rfl | 10, _ => rfl | 11, _ => rfl | j + 12, hj => exact absurd hj (by omega)⟩
theorem na_X4_9 : g_NA RX4 9 5 12 [.null, .null, .null, .int 0, .int 0, .int 0, .int 0, .int 0, .int 0, .int 0, .int 0, .int 0] := ⟨RX5, TX5, tyX5, rfl, lay_X5, tyX5_ok, gw_mem 253 (by decide +kernel) (by decide +kernel), inst_X5, ini_X5, fun j hj => by match j, hj with | 0, _ => rfl | 1, _ => rfl | 2, _ => rfl | 3, _ => rfl | 4, _ => rfl | 5, _ => rfl | 6, _ => rfl | 7, _ => rfl | 8, _ => rfl | 9, _ => rfl | 10, _ => rfl | 11, _ => rfl | j + 12, hj => exact absurd hj (by omega)⟩
theorem inst_X7 : Cond.instantiable RX7 10 ∈ lw_gw := gw_mem 54 (by decide +kernel) (by decide +kernel)
theorem na_L_7 : g_NA RL 7 7 10 [.null, .null, .null, .null, .null, .null, .null, .null, .null, .long 0] := ⟨RX7, TX7, tyX7, rfl, lay_X7, tyX7_ok, gw_mem 53 (by decide +kernel) (by decide +kernel), inst_X7, ini_X7, fun j hj => by match j, hj with | 0, _ => rfl | 1, _ => rfl | 2, _ => rfl | 3, _ => rfl | 4, _ => rfl | 5, _ => rfl | 6, _ => rfl | 7, _ => rfl | 8, _ => rfl | 9, _ => rfl | j + 10, hj => exact absurd hj (by omega)⟩
theorem inst_X8 : Cond.instantiable RX8 34 ∈ lw_gw := gw_mem 653 (by decide +kernel) (by decide +kernel)
theorem na_L_10 : g_NA RL 10 8 34 [.null, .int 0, .int 0, .int 0, .int 0, .int 0, .int 0, .int 0, .null, .null, .null, .int 0, .int 0, .null, .null, .null, .null, .null, .int 0, .long 0, .int 0, .null, .null, .null, .null, .int 0, .int 0, .int 0, .null, .null, .int 0, .null, .int 0, .int 0] := ⟨RX8, TX8, tyX8, rfl, lay_X8, tyX8_ok, gw_mem 652 (by decide +kernel) (by decide +kernel), inst_X8, ini_X8, fun j hj => by match j, hj with | 0, _ => rfl | 1, _ => rfl | 2, _ => rfl | 3, _ => rfl | 4, _ => rfl | 5, _ => rfl | 6, _ => rfl | 7, _ => rfl | 8, _ => rfl | 9, _ => rfl | 10, _ => rfl | 11, _ => rfl | 12, _ => rfl | 13, _ => rfl | 14, _ => rfl | 15, _ => rfl | 16, _ => rfl | 17, _ => rfl | 18, _ => rfl | 19, _ => rfl | 20, _ => rfl | 21, _ => rfl | 22, _ => rfl | 23, _ => rfl | 24, _ => rfl | 25, _ => rfl | 26, _ => rfl | 27, _ => rfl | 28, _ => rfl | 29, _ => rfl | 30, _ => rfl | 31, _ => rfl | 32, _ => rfl | 33, _ => rfl | j + 34, hj => exact absurd hj (by omega)⟩
theorem ol_X7_1 : Cond.methodLink RX7 1 objectInit ∈ lw_gw := gw_mem 58 (by decide +kernel) (by decide +kernel)
theorem ol_X0_3 : Cond.methodLink RX0 3 objectInit ∈ lw_gw := gw_mem 209 (by decide +kernel) (by decide +kernel)
theorem ol_X1_3 : Cond.methodLink RX1 3 objectInit ∈ lw_gw := gw_mem 81 (by decide +kernel) (by decide +kernel)
theorem ol_X2_3 : Cond.methodLink RX2 3 objectInit ∈ lw_gw := gw_mem 194 (by decide +kernel) (by decide +kernel)
theorem ol_X3_3 : Cond.methodLink RX3 3 objectInit ∈ lw_gw := gw_mem 229 (by decide +kernel) (by decide +kernel)
theorem ol_X4_3 : Cond.methodLink RX4 3 objectInit ∈ lw_gw := gw_mem 252 (by decide +kernel) (by decide +kernel)
theorem ol_X5_3 : Cond.methodLink RX5 3 objectInit ∈ lw_gw := gw_mem 121 (by decide +kernel) (by decide +kernel)
theorem ol_X6_3 : Cond.methodLink RX6 3 objectInit ∈ lw_gw := gw_mem 66 (by decide +kernel) (by decide +kernel)
theorem ol_X8_1 : Cond.methodLink RX8 1 objectInit ∈ lw_gw := gw_mem 657 (by decide +kernel) (by decide +kernel)
theorem sl_X0_9 : Cond.classLink RX0 9 "HeatLines$State" ∈ lw_gw := gw_mem 210 (by decide +kernel) (by decide +kernel)
theorem sl_X4_9 : Cond.classLink RX4 9 "HeatLines$State" ∈ lw_gw := gw_mem 253 (by decide +kernel) (by decide +kernel)
theorem pf_0_0 : g_PF RX0 0 0 (.array (.object "HeatLines$State")) := ⟨RX0, TX0, 3, tyX0, rfl, tyX0_ok, nmX0, rfl, rfl, by decide +kernel⟩
theorem pf_1_0 : g_PF RX1 1 0 (.array .int) := ⟨RX1, TX1, 7, tyX1, rfl, tyX1_ok, nmX1, rfl, rfl, by decide +kernel⟩
theorem pf_2_0 : g_PF RX2 2 0 (.array .int) := ⟨RX2, TX2, 2, tyX2, rfl, tyX2_ok, nmX2, rfl, rfl, by decide +kernel⟩
theorem pf_2_1 : g_PF RX2 2 1 (.array .int) := ⟨RX2, TX2, 2, tyX2, rfl, tyX2_ok, nmX2, rfl, rfl, by decide +kernel⟩
theorem pf_3_0 : g_PF RX3 3 0 (.array .int) := ⟨RX3, TX3, 4, tyX3, rfl, tyX3_ok, nmX3, rfl, rfl, by decide +kernel⟩
theorem pf_3_1 : g_PF RX3 3 1 (.array .int) := ⟨RX3, TX3, 4, tyX3, rfl, tyX3_ok, nmX3, rfl, rfl, by decide +kernel⟩
theorem pf_3_2 : g_PF RX3 3 2 (.array .int) := ⟨RX3, TX3, 4, tyX3, rfl, tyX3_ok, nmX3, rfl, rfl, by decide +kernel⟩
theorem pf_4_0 : g_PF RX4 4 0 (.array (.object "HeatLines$State")) := ⟨RX4, TX4, 2, tyX4, rfl, tyX4_ok, nmX4, rfl, rfl, by decide +kernel⟩
theorem pf_4_1 : g_PF RX4 4 1 (.array .boolean) := ⟨RX4, TX4, 2, tyX4, rfl, tyX4_ok, nmX4, rfl, rfl, by decide +kernel⟩
theorem pf_5_0 : g_PF RX5 5 0 (.array .int) := ⟨RX5, TX5, 12, tyX5, rfl, tyX5_ok, nmX5, rfl, rfl, by decide +kernel⟩
theorem pf_5_1 : g_PF RX5 5 1 (.array .int) := ⟨RX5, TX5, 12, tyX5, rfl, tyX5_ok, nmX5, rfl, rfl, by decide +kernel⟩
theorem pf_5_2 : g_PF RX5 5 2 (.array .int) := ⟨RX5, TX5, 12, tyX5, rfl, tyX5_ok, nmX5, rfl, rfl, by decide +kernel⟩
theorem pf_6_0 : g_PF RX6 6 0 (.array .int) := ⟨RX6, TX6, 2, tyX6, rfl, tyX6_ok, nmX6, rfl, rfl, by decide +kernel⟩
theorem pf_7_0 : g_PF RX7 7 0 (.object "HeatLines$Text") := ⟨RX7, TX7, 10, tyX7, rfl, tyX7_ok, nmX7, rfl, rfl, by decide +kernel⟩
theorem pf_7_1 : g_PF RX7 7 1 (.object "HeatLines$Head") := ⟨RX7, TX7, 10, tyX7, rfl, tyX7_ok, nmX7, rfl, rfl, by decide +kernel⟩
theorem pf_7_2 : g_PF RX7 7 2 (.object "HeatLines$State") := ⟨RX7, TX7, 10, tyX7, rfl, tyX7_ok, nmX7, rfl, rfl, by decide +kernel⟩
theorem pf_7_3 : g_PF RX7 7 3 (.object "HeatLines$State") := ⟨RX7, TX7, 10, tyX7, rfl, tyX7_ok, nmX7, rfl, rfl, by decide +kernel⟩
theorem pf_7_4 : g_PF RX7 7 4 (.object "HeatLines$State") := ⟨RX7, TX7, 10, tyX7, rfl, tyX7_ok, nmX7, rfl, rfl, by decide +kernel⟩
theorem pf_7_5 : g_PF RX7 7 5 (.object "HeatLines$Run") := ⟨RX7, TX7, 10, tyX7, rfl, tyX7_ok, nmX7, rfl, rfl, by decide +kernel⟩
theorem pf_7_6 : g_PF RX7 7 6 (.object "HeatLines$Acts") := ⟨RX7, TX7, 10, tyX7, rfl, tyX7_ok, nmX7, rfl, rfl, by decide +kernel⟩
theorem pf_7_7 : g_PF RX7 7 7 (.object "HeatLines$Sights") := ⟨RX7, TX7, 10, tyX7, rfl, tyX7_ok, nmX7, rfl, rfl, by decide +kernel⟩
theorem pf_7_8 : g_PF RX7 7 8 (.object "HeatLines$Slots") := ⟨RX7, TX7, 10, tyX7, rfl, tyX7_ok, nmX7, rfl, rfl, by decide +kernel⟩
theorem pf_8_0 : g_PF RX8 8 0 (.array .int) := ⟨RX8, TX8, 34, tyX8, rfl, tyX8_ok, nmX8, rfl, rfl, by decide +kernel⟩
theorem pf_8_8 : g_PF RX8 8 8 (.array .int) := ⟨RX8, TX8, 34, tyX8, rfl, tyX8_ok, nmX8, rfl, rfl, by decide +kernel⟩
theorem pf_8_9 : g_PF RX8 8 9 (.array .int) := ⟨RX8, TX8, 34, tyX8, rfl, tyX8_ok, nmX8, rfl, rfl, by decide +kernel⟩
theorem pf_8_10 : g_PF RX8 8 10 (.array .int) := ⟨RX8, TX8, 34, tyX8, rfl, tyX8_ok, nmX8, rfl, rfl, by decide +kernel⟩
theorem pf_8_13 : g_PF RX8 8 13 (.array .int) := ⟨RX8, TX8, 34, tyX8, rfl, tyX8_ok, nmX8, rfl, rfl, by decide +kernel⟩
theorem pf_8_14 : g_PF RX8 8 14 (.array .boolean) := ⟨RX8, TX8, 34, tyX8, rfl, tyX8_ok, nmX8, rfl, rfl, by decide +kernel⟩
theorem pf_8_15 : g_PF RX8 8 15 (.array .int) := ⟨RX8, TX8, 34, tyX8, rfl, tyX8_ok, nmX8, rfl, rfl, by decide +kernel⟩
theorem pf_8_16 : g_PF RX8 8 16 (.array .int) := ⟨RX8, TX8, 34, tyX8, rfl, tyX8_ok, nmX8, rfl, rfl, by decide +kernel⟩
theorem pf_8_17 : g_PF RX8 8 17 (.array .int) := ⟨RX8, TX8, 34, tyX8, rfl, tyX8_ok, nmX8, rfl, rfl, by decide +kernel⟩
theorem pf_8_21 : g_PF RX8 8 21 (.array .int) := ⟨RX8, TX8, 34, tyX8, rfl, tyX8_ok, nmX8, rfl, rfl, by decide +kernel⟩
theorem pf_8_22 : g_PF RX8 8 22 (.array .int) := ⟨RX8, TX8, 34, tyX8, rfl, tyX8_ok, nmX8, rfl, rfl, by decide +kernel⟩
theorem pf_8_23 : g_PF RX8 8 23 (.array .int) := ⟨RX8, TX8, 34, tyX8, rfl, tyX8_ok, nmX8, rfl, rfl, by decide +kernel⟩
theorem pf_8_24 : g_PF RX8 8 24 (.array .int) := ⟨RX8, TX8, 34, tyX8, rfl, tyX8_ok, nmX8, rfl, rfl, by decide +kernel⟩
theorem pf_8_28 : g_PF RX8 8 28 (.array .int) := ⟨RX8, TX8, 34, tyX8, rfl, tyX8_ok, nmX8, rfl, rfl, by decide +kernel⟩
theorem pf_8_29 : g_PF RX8 8 29 (.array .int) := ⟨RX8, TX8, 34, tyX8, rfl, tyX8_ok, nmX8, rfl, rfl, by decide +kernel⟩
theorem pf_8_31 : g_PF RX8 8 31 (.array .int) := ⟨RX8, TX8, 34, tyX8, rfl, tyX8_ok, nmX8, rfl, rfl, by decide +kernel⟩
theorem mc_X6_init : Cond.code yX6_init cX6_init 1 none ∈ lw_gw := gw_mem 65 (by decide +kernel) (by decide +kernel)
theorem mi_X6_init : Cond.instanceMethod yX6_init ∈ lw_gw := gw_mem 64 (by decide +kernel) (by decide +kernel)
theorem ci_X7_9 : g_MI RX7 9 yX6_init cX6_init 1 := ⟨Or.inl (by decide +kernel), mi_X6_init, ini_X6, mc_X6_init, rfl, ⟨by decide, by decide, by decide +kernel⟩⟩
theorem mc_X1_init : Cond.code yX1_init cX1_init 1 none ∈ lw_gw := gw_mem 80 (by decide +kernel) (by decide +kernel)
theorem mi_X1_init : Cond.instanceMethod yX1_init ∈ lw_gw := gw_mem 79 (by decide +kernel) (by decide +kernel)
theorem ci_X7_18 : g_MI RX7 18 yX1_init cX1_init 1 := ⟨Or.inl (by decide +kernel), mi_X1_init, ini_X1, mc_X1_init, rfl, ⟨by decide, by decide, by decide +kernel⟩⟩
theorem mc_X5_init : Cond.code yX5_init cX5_init 1 none ∈ lw_gw := gw_mem 120 (by decide +kernel) (by decide +kernel)
theorem mi_X5_init : Cond.instanceMethod yX5_init ∈ lw_gw := gw_mem 119 (by decide +kernel) (by decide +kernel)
theorem ci_X7_25 : g_MI RX7 25 yX5_init cX5_init 1 := ⟨Or.inl (by decide +kernel), mi_X5_init, ini_X5, mc_X5_init, rfl, ⟨by decide, by decide, by decide +kernel⟩⟩
theorem mc_X2_init : Cond.code yX2_init cX2_init 1 none ∈ lw_gw := gw_mem 193 (by decide +kernel) (by decide +kernel)
theorem mi_X2_init : Cond.instanceMethod yX2_init ∈ lw_gw := gw_mem 192 (by decide +kernel) (by decide +kernel)
theorem ci_X7_38 : g_MI RX7 38 yX2_init cX2_init 1 := ⟨Or.inl (by decide +kernel), mi_X2_init, ini_X2, mc_X2_init, rfl, ⟨by decide, by decide, by decide +kernel⟩⟩
theorem mc_X0_init : Cond.code yX0_init cX0_init 2 none ∈ lw_gw := gw_mem 208 (by decide +kernel) (by decide +kernel)
theorem mi_X0_init : Cond.instanceMethod yX0_init ∈ lw_gw := gw_mem 207 (by decide +kernel) (by decide +kernel)
theorem ci_X7_45 : g_MI RX7 45 yX0_init cX0_init 2 := ⟨Or.inr (gw_mem 206 (by decide +kernel) (by decide +kernel)), mi_X0_init, ini_X0, mc_X0_init, rfl, ⟨by decide, by decide, by decide +kernel⟩⟩
theorem mc_X3_init : Cond.code yX3_init cX3_init 1 none ∈ lw_gw := gw_mem 228 (by decide +kernel) (by decide +kernel)
theorem mi_X3_init : Cond.instanceMethod yX3_init ∈ lw_gw := gw_mem 227 (by decide +kernel) (by decide +kernel)
theorem ci_X7_52 : g_MI RX7 52 yX3_init cX3_init 1 := ⟨Or.inl (by decide +kernel), mi_X3_init, ini_X3, mc_X3_init, rfl, ⟨by decide, by decide, by decide +kernel⟩⟩
theorem mc_X4_init : Cond.code yX4_init cX4_init 2 none ∈ lw_gw := gw_mem 251 (by decide +kernel) (by decide +kernel)
theorem mi_X4_init : Cond.instanceMethod yX4_init ∈ lw_gw := gw_mem 250 (by decide +kernel) (by decide +kernel)
theorem ci_X7_59 : g_MI RX7 59 yX4_init cX4_init 2 := ⟨Or.inr (gw_mem 249 (by decide +kernel) (by decide +kernel)), mi_X4_init, ini_X4, mc_X4_init, rfl, ⟨by decide, by decide, by decide +kernel⟩⟩
theorem ci_X0_17 : g_MI RX0 17 yX5_init cX5_init 1 := ⟨Or.inl (by decide +kernel), mi_X5_init, ini_X5, mc_X5_init, rfl, ⟨by decide, by decide, by decide +kernel⟩⟩
theorem ci_X4_21 : g_MI RX4 21 yX5_init cX5_init 1 := ⟨Or.inl (by decide +kernel), mi_X5_init, ini_X5, mc_X5_init, rfl, ⟨by decide, by decide, by decide +kernel⟩⟩
theorem mc_X7_init : Cond.code yX7_init cX7_init 1 none ∈ lw_gw := gw_mem 57 (by decide +kernel) (by decide +kernel)
theorem mi_X7_init : Cond.instanceMethod yX7_init ∈ lw_gw := gw_mem 56 (by decide +kernel) (by decide +kernel)
theorem ci_L_9 : g_MI RL 9 yX7_init cX7_init 1 := ⟨Or.inr (gw_mem 55 (by decide +kernel) (by decide +kernel)), mi_X7_init, ini_X7, mc_X7_init, rfl, ⟨by decide, by decide, by decide +kernel⟩⟩
theorem mc_X8_init : Cond.code yX8_init cX8_init 1 none ∈ lw_gw := gw_mem 656 (by decide +kernel) (by decide +kernel)
theorem mi_X8_init : Cond.instanceMethod yX8_init ∈ lw_gw := gw_mem 655 (by decide +kernel) (by decide +kernel)
theorem ci_L_12 : g_MI RL 12 yX8_init cX8_init 1 := ⟨Or.inr (gw_mem 654 (by decide +kernel) (by decide +kernel)), mi_X8_init, ini_X8, mc_X8_init, rfl, ⟨by decide, by decide, by decide +kernel⟩⟩
