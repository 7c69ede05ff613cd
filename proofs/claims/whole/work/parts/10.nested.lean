def W_X5_copyFrom (E : g_E) (h0 : Nat) (h1 : Nat) (h2 : Nat) (h3 : Nat) (h4 : Nat) (h5 : Nat) (h6 : Nat) (h7 : Nat) (v_z_queued : Int32) (v_z_last : Int32) (v_z_before : Int32) (v_z_ribbon : Int32) (v_z_right : Int32) (v_z_pale : Int32) (v_z_dark : Int32) (v_z_ghosts : Int32) (v_z_printed : Int32) (v_heats : Nat → Int32) (v_figures : Nat → Int32) (v_queue : Nat → Int32) (v_p1_queued : Int32) (v_p1_last : Int32) (v_p1_before : Int32) (v_p1_ribbon : Int32) (v_p1_right : Int32) (v_p1_pale : Int32) (v_p1_dark : Int32) (v_p1_ghosts : Int32) (v_p1_printed : Int32) (v_p1_heats : Nat → Int32) (v_p1_figures : Nat → Int32) (v_p1_queue : Nat → Int32) : va_W := [(h0, .inr (5, [.ref h1, .ref h2, .ref h3, .int v_z_queued, .int v_z_last, .int v_z_before, .int v_z_ribbon, .int v_z_right, .int v_z_pale, .int v_z_dark, .int v_z_ghosts, .int v_z_printed])), (h1, .inl (E.2.1, 8, .inl v_heats)), (h2, .inl (E.2.1, 5, .inl v_figures)), (h3, .inl (E.2.1, 8, .inl v_queue)), (h4, .inr (5, [.ref h5, .ref h6, .ref h7, .int v_p1_queued, .int v_p1_last, .int v_p1_before, .int v_p1_ribbon, .int v_p1_right, .int v_p1_pale, .int v_p1_dark, .int v_p1_ghosts, .int v_p1_printed])), (h5, .inl (E.2.1, 8, .inl v_p1_heats)), (h6, .inl (E.2.1, 5, .inl v_p1_figures)), (h7, .inl (E.2.1, 8, .inl v_p1_queue))]
def P_X5_copyFrom (v_z_queued : Int32) (v_z_last : Int32) (v_z_before : Int32) (v_z_ribbon : Int32) (v_z_right : Int32) (v_z_pale : Int32) (v_z_dark : Int32) (v_z_ghosts : Int32) (v_z_printed : Int32) (v_heats : Nat → Int32) (v_figures : Nat → Int32) (v_queue : Nat → Int32) (v_p1_queued : Int32) (v_p1_last : Int32) (v_p1_before : Int32) (v_p1_ribbon : Int32) (v_p1_right : Int32) (v_p1_pale : Int32) (v_p1_dark : Int32) (v_p1_ghosts : Int32) (v_p1_printed : Int32) (v_p1_heats : Nat → Int32) (v_p1_figures : Nat → Int32) (v_p1_queue : Nat → Int32) (K : Int32 → Int32 → Int32 → Int32 → Int32 → Int32 → Int32 → Int32 → Int32 → (Nat → Int32) → (Nat → Int32) → (Nat → Int32) → Prop) : Prop := K v_p1_queued v_p1_last v_p1_before v_p1_ribbon v_p1_right v_p1_pale v_p1_dark v_p1_ghosts v_p1_printed (va_cpy v_p1_heats v_heats 0 0 8) (va_cpy v_p1_figures v_figures 0 0 5) (va_cpy v_p1_queue v_queue 0 0 8)
set_option maxHeartbeats 4000000 in
set_option maxRecDepth 100000 in
theorem c_X5_copyFrom {l : Launch} {E : g_E} (h0 : Nat) (h1 : Nat) (h2 : Nat) (h3 : Nat) (h4 : Nat) (h5 : Nat) (h6 : Nat) (h7 : Nat) (v_z_queued : Int32) (v_z_last : Int32) (v_z_before : Int32) (v_z_ribbon : Int32) (v_z_right : Int32) (v_z_pale : Int32) (v_z_dark : Int32) (v_z_ghosts : Int32) (v_z_printed : Int32) (v_heats : Nat → Int32) (v_figures : Nat → Int32) (v_queue : Nat → Int32) (v_p1_queued : Int32) (v_p1_last : Int32) (v_p1_before : Int32) (v_p1_ribbon : Int32) (v_p1_right : Int32) (v_p1_pale : Int32) (v_p1_dark : Int32) (v_p1_ghosts : Int32) (v_p1_printed : Int32) (v_p1_heats : Nat → Int32) (v_p1_figures : Nat → Int32) (v_p1_queue : Nat → Int32) {K : Int32 → Int32 → Int32 → Int32 → Int32 → Int32 → Int32 → Int32 → Int32 → (Nat → Int32) → (Nat → Int32) → (Nat → Int32) → Prop} (h : P_X5_copyFrom v_z_queued v_z_last v_z_before v_z_ribbon v_z_right v_z_pale v_z_dark v_z_ghosts v_z_printed v_heats v_figures v_queue v_p1_queued v_p1_last v_p1_before v_p1_ribbon v_p1_right v_p1_pale v_p1_dark v_p1_ghosts v_p1_printed v_p1_heats v_p1_figures v_p1_queue K) : g_CV l E yX5_copyFrom cX5_copyFrom 2 (g_Rm 1 40) [.ref h0, .ref h4] (W_X5_copyFrom E h0 h1 h2 h3 h4 h5 h6 h7 v_z_queued v_z_last v_z_before v_z_ribbon v_z_right v_z_pale v_z_dark v_z_ghosts v_z_printed v_heats v_figures v_queue v_p1_queued v_p1_last v_p1_before v_p1_ribbon v_p1_right v_p1_pale v_p1_dark v_p1_ghosts v_p1_printed v_p1_heats v_p1_figures v_p1_queue) (fun (u : Int32 × Int32 × Int32 × Int32 × Int32 × Int32 × Int32 × Int32 × Int32 × (Nat → Int32) × (Nat → Int32) × (Nat → Int32)) => K u.1 u.2.1 u.2.2.1 u.2.2.2.1 u.2.2.2.2.1 u.2.2.2.2.2.1 u.2.2.2.2.2.2.1 u.2.2.2.2.2.2.2.1 u.2.2.2.2.2.2.2.2.1 u.2.2.2.2.2.2.2.2.2.1 u.2.2.2.2.2.2.2.2.2.2.1 u.2.2.2.2.2.2.2.2.2.2.2) (fun (u : Int32 × Int32 × Int32 × Int32 × Int32 × Int32 × Int32 × Int32 × Int32 × (Nat → Int32) × (Nat → Int32) × (Nat → Int32)) => (W_X5_copyFrom E h0 h1 h2 h3 h4 h5 h6 h7 u.1 u.2.1 u.2.2.1 u.2.2.2.1 u.2.2.2.2.1 u.2.2.2.2.2.1 u.2.2.2.2.2.2.1 u.2.2.2.2.2.2.2.1 u.2.2.2.2.2.2.2.2.1 u.2.2.2.2.2.2.2.2.2.1 u.2.2.2.2.2.2.2.2.2.2.1 u.2.2.2.2.2.2.2.2.2.2.2 v_p1_queued v_p1_last v_p1_before v_p1_ribbon v_p1_right v_p1_pale v_p1_dark v_p1_ghosts v_p1_printed v_p1_heats v_p1_figures v_p1_queue)) := by
  refine g_entV RX5 (by decide) rfl (Nat.le_of_ble_eq_true rfl) ?_
  intro Γ X hE hl ret
  subst hE
  subst hl
  unfold P_X5_copyFrom at h
  show g_G Γ (g_Rm 1 40) 2 0 [(0, .ref h0), (1, .ref h4)] [] (W_X5_copyFrom (g_env Γ) h0 h1 h2 h3 h4 h5 h6 h7 v_z_queued v_z_last v_z_before v_z_ribbon v_z_right v_z_pale v_z_dark v_z_ghosts v_z_printed v_heats v_figures v_queue v_p1_queued v_p1_last v_p1_before v_p1_ribbon v_p1_right v_p1_pale v_p1_dark v_p1_ghosts v_p1_printed v_p1_heats v_p1_figures v_p1_queue)
  refine g_aload_n 0 X dX5_copyFrom_0 1 rfl rfl ?_
  refine g_get 1 X fa_X5_9 dX5_copyFrom_1 4 rfl rfl ?_
  refine g_iconst 4 X (0 : Int32) dX5_copyFrom_4 k_ic_0 ?_
  refine g_aload_n 5 X dX5_copyFrom_5 0 rfl rfl ?_
  refine g_get 6 X fa_X5_9 dX5_copyFrom_6 0 rfl rfl ?_
  refine g_iconst 9 X (0 : Int32) dX5_copyFrom_9 k_ic_0 ?_
  refine g_bipush 10 X (8 : Int32) dX5_copyFrom_10 k_bp_8 ?_
  refine g_copyi 12 X 0 0 8 (W_X5_copyFrom (g_env Γ) h0 h1 h2 h3 h4 h5 h6 h7 v_z_queued v_z_last v_z_before v_z_ribbon v_z_right v_z_pale v_z_dark v_z_ghosts v_z_printed (va_cpy v_p1_heats v_heats 0 0 8) v_figures v_queue v_p1_queued v_p1_last v_p1_before v_p1_ribbon v_p1_right v_p1_pale v_p1_dark v_p1_ghosts v_p1_printed v_p1_heats v_p1_figures v_p1_queue) dX5_copyFrom_12 ml_X5_21 5 1 rfl rfl rfl (by decide) (by decide) (by decide) (by decide) (by decide) (by decide) (by decide) (by decide) (Nat.le_of_ble_eq_true rfl) (Nat.le_of_ble_eq_true rfl) rfl ?_
  refine g_aload_n 15 X dX5_copyFrom_15 1 rfl rfl ?_
  refine g_get 16 X fa_X5_15 dX5_copyFrom_16 4 rfl rfl ?_
  refine g_iconst 19 X (0 : Int32) dX5_copyFrom_19 k_ic_0 ?_
  refine g_aload_n 20 X dX5_copyFrom_20 0 rfl rfl ?_
  refine g_get 21 X fa_X5_15 dX5_copyFrom_21 0 rfl rfl ?_
  refine g_iconst 24 X (0 : Int32) dX5_copyFrom_24 k_ic_0 ?_
  refine g_iconst 25 X (5 : Int32) dX5_copyFrom_25 k_ic_5 ?_
  refine g_copyi 26 X 0 0 5 (W_X5_copyFrom (g_env Γ) h0 h1 h2 h3 h4 h5 h6 h7 v_z_queued v_z_last v_z_before v_z_ribbon v_z_right v_z_pale v_z_dark v_z_ghosts v_z_printed (va_cpy v_p1_heats v_heats 0 0 8) (va_cpy v_p1_figures v_figures 0 0 5) v_queue v_p1_queued v_p1_last v_p1_before v_p1_ribbon v_p1_right v_p1_pale v_p1_dark v_p1_ghosts v_p1_printed v_p1_heats v_p1_figures v_p1_queue) dX5_copyFrom_26 ml_X5_21 6 2 rfl rfl rfl (by decide) (by decide) (by decide) (by decide) (by decide) (by decide) (by decide) (by decide) (Nat.le_of_ble_eq_true rfl) (Nat.le_of_ble_eq_true rfl) rfl ?_
  refine g_aload_n 29 X dX5_copyFrom_29 1 rfl rfl ?_
  refine g_get 30 X fa_X5_18 dX5_copyFrom_30 4 rfl rfl ?_
  refine g_iconst 33 X (0 : Int32) dX5_copyFrom_33 k_ic_0 ?_
  refine g_aload_n 34 X dX5_copyFrom_34 0 rfl rfl ?_
  refine g_get 35 X fa_X5_18 dX5_copyFrom_35 0 rfl rfl ?_
  refine g_iconst 38 X (0 : Int32) dX5_copyFrom_38 k_ic_0 ?_
  refine g_bipush 39 X (8 : Int32) dX5_copyFrom_39 k_bp_8 ?_
  refine g_copyi 41 X 0 0 8 (W_X5_copyFrom (g_env Γ) h0 h1 h2 h3 h4 h5 h6 h7 v_z_queued v_z_last v_z_before v_z_ribbon v_z_right v_z_pale v_z_dark v_z_ghosts v_z_printed (va_cpy v_p1_heats v_heats 0 0 8) (va_cpy v_p1_figures v_figures 0 0 5) (va_cpy v_p1_queue v_queue 0 0 8) v_p1_queued v_p1_last v_p1_before v_p1_ribbon v_p1_right v_p1_pale v_p1_dark v_p1_ghosts v_p1_printed v_p1_heats v_p1_figures v_p1_queue) dX5_copyFrom_41 ml_X5_21 7 3 rfl rfl rfl (by decide) (by decide) (by decide) (by decide) (by decide) (by decide) (by decide) (by decide) (Nat.le_of_ble_eq_true rfl) (Nat.le_of_ble_eq_true rfl) rfl ?_
  refine g_aload_n 44 X dX5_copyFrom_44 0 rfl rfl ?_
  refine g_aload_n 45 X dX5_copyFrom_45 1 rfl rfl ?_
  refine g_get 46 X fa_X5_27 dX5_copyFrom_46 4 rfl rfl ?_
  refine g_put 49 X (W_X5_copyFrom (g_env Γ) h0 h1 h2 h3 h4 h5 h6 h7 v_p1_queued v_z_last v_z_before v_z_ribbon v_z_right v_z_pale v_z_dark v_z_ghosts v_z_printed (va_cpy v_p1_heats v_heats 0 0 8) (va_cpy v_p1_figures v_figures 0 0 5) (va_cpy v_p1_queue v_queue 0 0 8) v_p1_queued v_p1_last v_p1_before v_p1_ribbon v_p1_right v_p1_pale v_p1_dark v_p1_ghosts v_p1_printed v_p1_heats v_p1_figures v_p1_queue) fa_X5_27 pa_5_3 dX5_copyFrom_49 0 rfl rfl rfl (Nat.le_of_ble_eq_true rfl) rfl ?_
  refine g_aload_n 52 X dX5_copyFrom_52 0 rfl rfl ?_
  refine g_aload_n 53 X dX5_copyFrom_53 1 rfl rfl ?_
  refine g_get 54 X fa_X5_31 dX5_copyFrom_54 4 rfl rfl ?_
  refine g_put 57 X (W_X5_copyFrom (g_env Γ) h0 h1 h2 h3 h4 h5 h6 h7 v_p1_queued v_p1_last v_z_before v_z_ribbon v_z_right v_z_pale v_z_dark v_z_ghosts v_z_printed (va_cpy v_p1_heats v_heats 0 0 8) (va_cpy v_p1_figures v_figures 0 0 5) (va_cpy v_p1_queue v_queue 0 0 8) v_p1_queued v_p1_last v_p1_before v_p1_ribbon v_p1_right v_p1_pale v_p1_dark v_p1_ghosts v_p1_printed v_p1_heats v_p1_figures v_p1_queue) fa_X5_31 pa_5_4 dX5_copyFrom_57 0 rfl rfl rfl (Nat.le_of_ble_eq_true rfl) rfl ?_
  refine g_aload_n 60 X dX5_copyFrom_60 0 rfl rfl ?_
  refine g_aload_n 61 X dX5_copyFrom_61 1 rfl rfl ?_
  refine g_get 62 X fa_X5_34 dX5_copyFrom_62 4 rfl rfl ?_
  refine g_put 65 X (W_X5_copyFrom (g_env Γ) h0 h1 h2 h3 h4 h5 h6 h7 v_p1_queued v_p1_last v_p1_before v_z_ribbon v_z_right v_z_pale v_z_dark v_z_ghosts v_z_printed (va_cpy v_p1_heats v_heats 0 0 8) (va_cpy v_p1_figures v_figures 0 0 5) (va_cpy v_p1_queue v_queue 0 0 8) v_p1_queued v_p1_last v_p1_before v_p1_ribbon v_p1_right v_p1_pale v_p1_dark v_p1_ghosts v_p1_printed v_p1_heats v_p1_figures v_p1_queue) fa_X5_34 pa_5_5 dX5_copyFrom_65 0 rfl rfl rfl (Nat.le_of_ble_eq_true rfl) rfl ?_
  refine g_aload_n 68 X dX5_copyFrom_68 0 rfl rfl ?_
  refine g_aload_n 69 X dX5_copyFrom_69 1 rfl rfl ?_
  refine g_get 70 X fa_X5_37 dX5_copyFrom_70 4 rfl rfl ?_
  refine g_put 73 X (W_X5_copyFrom (g_env Γ) h0 h1 h2 h3 h4 h5 h6 h7 v_p1_queued v_p1_last v_p1_before v_p1_ribbon v_z_right v_z_pale v_z_dark v_z_ghosts v_z_printed (va_cpy v_p1_heats v_heats 0 0 8) (va_cpy v_p1_figures v_figures 0 0 5) (va_cpy v_p1_queue v_queue 0 0 8) v_p1_queued v_p1_last v_p1_before v_p1_ribbon v_p1_right v_p1_pale v_p1_dark v_p1_ghosts v_p1_printed v_p1_heats v_p1_figures v_p1_queue) fa_X5_37 pa_5_6 dX5_copyFrom_73 0 rfl rfl rfl (Nat.le_of_ble_eq_true rfl) rfl ?_
  refine g_aload_n 76 X dX5_copyFrom_76 0 rfl rfl ?_
  refine g_aload_n 77 X dX5_copyFrom_77 1 rfl rfl ?_
  refine g_get 78 X fa_X5_40 dX5_copyFrom_78 4 rfl rfl ?_
  refine g_put 81 X (W_X5_copyFrom (g_env Γ) h0 h1 h2 h3 h4 h5 h6 h7 v_p1_queued v_p1_last v_p1_before v_p1_ribbon v_p1_right v_z_pale v_z_dark v_z_ghosts v_z_printed (va_cpy v_p1_heats v_heats 0 0 8) (va_cpy v_p1_figures v_figures 0 0 5) (va_cpy v_p1_queue v_queue 0 0 8) v_p1_queued v_p1_last v_p1_before v_p1_ribbon v_p1_right v_p1_pale v_p1_dark v_p1_ghosts v_p1_printed v_p1_heats v_p1_figures v_p1_queue) fa_X5_40 pa_5_7 dX5_copyFrom_81 0 rfl rfl rfl (Nat.le_of_ble_eq_true rfl) rfl ?_
  refine g_aload_n 84 X dX5_copyFrom_84 0 rfl rfl ?_
  refine g_aload_n 85 X dX5_copyFrom_85 1 rfl rfl ?_
  refine g_get 86 X fa_X5_43 dX5_copyFrom_86 4 rfl rfl ?_
  refine g_put 89 X (W_X5_copyFrom (g_env Γ) h0 h1 h2 h3 h4 h5 h6 h7 v_p1_queued v_p1_last v_p1_before v_p1_ribbon v_p1_right v_p1_pale v_z_dark v_z_ghosts v_z_printed (va_cpy v_p1_heats v_heats 0 0 8) (va_cpy v_p1_figures v_figures 0 0 5) (va_cpy v_p1_queue v_queue 0 0 8) v_p1_queued v_p1_last v_p1_before v_p1_ribbon v_p1_right v_p1_pale v_p1_dark v_p1_ghosts v_p1_printed v_p1_heats v_p1_figures v_p1_queue) fa_X5_43 pa_5_8 dX5_copyFrom_89 0 rfl rfl rfl (Nat.le_of_ble_eq_true rfl) rfl ?_
  refine g_aload_n 92 X dX5_copyFrom_92 0 rfl rfl ?_
  refine g_aload_n 93 X dX5_copyFrom_93 1 rfl rfl ?_
  refine g_get 94 X fa_X5_46 dX5_copyFrom_94 4 rfl rfl ?_
  refine g_put 97 X (W_X5_copyFrom (g_env Γ) h0 h1 h2 h3 h4 h5 h6 h7 v_p1_queued v_p1_last v_p1_before v_p1_ribbon v_p1_right v_p1_pale v_p1_dark v_z_ghosts v_z_printed (va_cpy v_p1_heats v_heats 0 0 8) (va_cpy v_p1_figures v_figures 0 0 5) (va_cpy v_p1_queue v_queue 0 0 8) v_p1_queued v_p1_last v_p1_before v_p1_ribbon v_p1_right v_p1_pale v_p1_dark v_p1_ghosts v_p1_printed v_p1_heats v_p1_figures v_p1_queue) fa_X5_46 pa_5_9 dX5_copyFrom_97 0 rfl rfl rfl (Nat.le_of_ble_eq_true rfl) rfl ?_
  refine g_aload_n 100 X dX5_copyFrom_100 0 rfl rfl ?_
  refine g_aload_n 101 X dX5_copyFrom_101 1 rfl rfl ?_
  refine g_get 102 X fa_X5_49 dX5_copyFrom_102 4 rfl rfl ?_
  refine g_put 105 X (W_X5_copyFrom (g_env Γ) h0 h1 h2 h3 h4 h5 h6 h7 v_p1_queued v_p1_last v_p1_before v_p1_ribbon v_p1_right v_p1_pale v_p1_dark v_p1_ghosts v_z_printed (va_cpy v_p1_heats v_heats 0 0 8) (va_cpy v_p1_figures v_figures 0 0 5) (va_cpy v_p1_queue v_queue 0 0 8) v_p1_queued v_p1_last v_p1_before v_p1_ribbon v_p1_right v_p1_pale v_p1_dark v_p1_ghosts v_p1_printed v_p1_heats v_p1_figures v_p1_queue) fa_X5_49 pa_5_10 dX5_copyFrom_105 0 rfl rfl rfl (Nat.le_of_ble_eq_true rfl) rfl ?_
  refine g_aload_n 108 X dX5_copyFrom_108 0 rfl rfl ?_
  refine g_aload_n 109 X dX5_copyFrom_109 1 rfl rfl ?_
  refine g_get 110 X fa_X5_52 dX5_copyFrom_110 4 rfl rfl ?_
  refine g_put 113 X (W_X5_copyFrom (g_env Γ) h0 h1 h2 h3 h4 h5 h6 h7 v_p1_queued v_p1_last v_p1_before v_p1_ribbon v_p1_right v_p1_pale v_p1_dark v_p1_ghosts v_p1_printed (va_cpy v_p1_heats v_heats 0 0 8) (va_cpy v_p1_figures v_figures 0 0 5) (va_cpy v_p1_queue v_queue 0 0 8) v_p1_queued v_p1_last v_p1_before v_p1_ribbon v_p1_right v_p1_pale v_p1_dark v_p1_ghosts v_p1_printed v_p1_heats v_p1_figures v_p1_queue) fa_X5_52 pa_5_11 dX5_copyFrom_113 0 rfl rfl rfl (Nat.le_of_ble_eq_true rfl) rfl ?_
  exact ret 116 _ (v_p1_queued, v_p1_last, v_p1_before, v_p1_ribbon, v_p1_right, v_p1_pale, v_p1_dark, v_p1_ghosts, v_p1_printed, (va_cpy v_p1_heats v_heats 0 0 8), (va_cpy v_p1_figures v_figures 0 0 5), (va_cpy v_p1_queue v_queue 0 0 8)) dX5_copyFrom_116 h

def V_X0_remember (E : g_E) (h0 : Nat) (h1 : Nat) (h2 : Nat) (h3 : Nat) (h4 : Nat) (h5 : Nat) (q6 : Nat → Nat → Nat) (v_z_first : Int32) (v_z_count : Int32) (v_p1_queued : Int32) (v_p1_last : Int32) (v_p1_before : Int32) (v_p1_ribbon : Int32) (v_p1_right : Int32) (v_p1_pale : Int32) (v_p1_dark : Int32) (v_p1_ghosts : Int32) (v_p1_printed : Int32) (v_p1_heats : Nat → Int32) (v_p1_figures : Nat → Int32) (v_p1_queue : Nat → Int32) (w_ring_el_H : Nat → Nat → Int32) (w_ring_el_F : Nat → Nat → Int32) (w_ring_el_Q : Nat → Nat → Int32) (w_ring_el_I : Nat → Nat → Int32) : va_W := [(h0, .inr (0, [.ref h1, .int v_z_first, .int v_z_count])), (h1, .inl (E.2.2.2.1, 14, .inr (.inr (.inr (.inr (fun k => some (q6 k 0))))))), (h2, .inr (5, [.ref h3, .ref h4, .ref h5, .int v_p1_queued, .int v_p1_last, .int v_p1_before, .int v_p1_ribbon, .int v_p1_right, .int v_p1_pale, .int v_p1_dark, .int v_p1_ghosts, .int v_p1_printed])), (h3, .inl (E.2.1, 8, .inl v_p1_heats)), (h4, .inl (E.2.1, 5, .inl v_p1_figures)), (h5, .inl (E.2.1, 8, .inl v_p1_queue))]
def W_X0_remember (E : g_E) (h0 : Nat) (h1 : Nat) (h2 : Nat) (h3 : Nat) (h4 : Nat) (h5 : Nat) (q6 : Nat → Nat → Nat) (v_z_first : Int32) (v_z_count : Int32) (v_p1_queued : Int32) (v_p1_last : Int32) (v_p1_before : Int32) (v_p1_ribbon : Int32) (v_p1_right : Int32) (v_p1_pale : Int32) (v_p1_dark : Int32) (v_p1_ghosts : Int32) (v_p1_printed : Int32) (v_p1_heats : Nat → Int32) (v_p1_figures : Nat → Int32) (v_p1_queue : Nat → Int32) (w_ring_el_H : Nat → Nat → Int32) (w_ring_el_F : Nat → Nat → Int32) (w_ring_el_Q : Nat → Nat → Int32) (w_ring_el_I : Nat → Nat → Int32) : va_W := V_X0_remember E h0 h1 h2 h3 h4 h5 q6 v_z_first v_z_count v_p1_queued v_p1_last v_p1_before v_p1_ribbon v_p1_right v_p1_pale v_p1_dark v_p1_ghosts v_p1_printed v_p1_heats v_p1_figures v_p1_queue w_ring_el_H w_ring_el_F w_ring_el_Q w_ring_el_I ++ g_pool E q6 w_ring_el_H w_ring_el_F w_ring_el_Q w_ring_el_I 14
def P_X0_remember (v_z_first : Int32) (v_z_count : Int32) (v_p1_queued : Int32) (v_p1_last : Int32) (v_p1_before : Int32) (v_p1_ribbon : Int32) (v_p1_right : Int32) (v_p1_pale : Int32) (v_p1_dark : Int32) (v_p1_ghosts : Int32) (v_p1_printed : Int32) (v_p1_heats : Nat → Int32) (v_p1_figures : Nat → Int32) (v_p1_queue : Nat → Int32) (w_ring_el_H : Nat → Nat → Int32) (w_ring_el_F : Nat → Nat → Int32) (w_ring_el_Q : Nat → Nat → Int32) (w_ring_el_I : Nat → Nat → Int32) (K : Int32 → Int32 → (Nat → Nat → Int32) → (Nat → Nat → Int32) → (Nat → Nat → Int32) → (Nat → Nat → Int32) → Prop) : Prop := ((v_z_count < (14 : Int32) → (vp_in ((v_z_first + v_z_count) - (v_z_first + v_z_count) / (14 : Int32) * (14 : Int32)) 14 ∧ (∀ k : Nat, k < 14 → ((v_z_first + v_z_count) - (v_z_first + v_z_count) / (14 : Int32) * (14 : Int32)) = nI k → (P_X5_copyFrom (w_ring_el_I k 3) (w_ring_el_I k 4) (w_ring_el_I k 5) (w_ring_el_I k 6) (w_ring_el_I k 7) (w_ring_el_I k 8) (w_ring_el_I k 9) (w_ring_el_I k 10) (w_ring_el_I k 11) (w_ring_el_H k) (w_ring_el_F k) (w_ring_el_Q k) v_p1_queued v_p1_last v_p1_before v_p1_ribbon v_p1_right v_p1_pale v_p1_dark v_p1_ghosts v_p1_printed v_p1_heats v_p1_figures v_p1_queue (fun e_3_2 e_4_3 e_5_4 e_6_5 e_7_6 e_8_7 e_9_8 e_10_9 e_11_10 e_heats_11 e_figures_12 e_queue_13 => K v_z_first (v_z_count + (1 : Int32)) (va_up w_ring_el_H k e_heats_11) (va_up w_ring_el_F k e_figures_12) (va_up w_ring_el_Q k e_queue_13) (va_up w_ring_el_I k (g_i9 e_3_2 e_4_3 e_5_4 e_6_5 e_7_6 e_8_7 e_9_8 e_10_9 e_11_10))))))) ∧ (¬ v_z_count < (14 : Int32) → (vp_in ((((v_z_first + (1 : Int32)) - (v_z_first + (1 : Int32)) / (14 : Int32) * (14 : Int32)) + (13 : Int32)) - (((v_z_first + (1 : Int32)) - (v_z_first + (1 : Int32)) / (14 : Int32) * (14 : Int32)) + (13 : Int32)) / (14 : Int32) * (14 : Int32)) 14 ∧ (∀ k : Nat, k < 14 → ((((v_z_first + (1 : Int32)) - (v_z_first + (1 : Int32)) / (14 : Int32) * (14 : Int32)) + (13 : Int32)) - (((v_z_first + (1 : Int32)) - (v_z_first + (1 : Int32)) / (14 : Int32) * (14 : Int32)) + (13 : Int32)) / (14 : Int32) * (14 : Int32)) = nI k → (P_X5_copyFrom (w_ring_el_I k 3) (w_ring_el_I k 4) (w_ring_el_I k 5) (w_ring_el_I k 6) (w_ring_el_I k 7) (w_ring_el_I k 8) (w_ring_el_I k 9) (w_ring_el_I k 10) (w_ring_el_I k 11) (w_ring_el_H k) (w_ring_el_F k) (w_ring_el_Q k) v_p1_queued v_p1_last v_p1_before v_p1_ribbon v_p1_right v_p1_pale v_p1_dark v_p1_ghosts v_p1_printed v_p1_heats v_p1_figures v_p1_queue (fun e_3_183 e_4_184 e_5_185 e_6_186 e_7_187 e_8_188 e_9_189 e_10_190 e_11_191 e_heats_192 e_figures_193 e_queue_194 => K ((v_z_first + (1 : Int32)) - (v_z_first + (1 : Int32)) / (14 : Int32) * (14 : Int32)) ((13 : Int32) + (1 : Int32)) (va_up w_ring_el_H k e_heats_192) (va_up w_ring_el_F k e_figures_193) (va_up w_ring_el_Q k e_queue_194) (va_up w_ring_el_I k (g_i9 e_3_183 e_4_184 e_5_185 e_6_186 e_7_187 e_8_188 e_9_189 e_10_190 e_11_191))))))))
set_option maxHeartbeats 4000000 in
set_option maxRecDepth 100000 in
theorem c_X0_remember {l : Launch} {E : g_E} (h0 : Nat) (h1 : Nat) (h2 : Nat) (h3 : Nat) (h4 : Nat) (h5 : Nat) (q6 : Nat → Nat → Nat) (v_z_first : Int32) (v_z_count : Int32) (v_p1_queued : Int32) (v_p1_last : Int32) (v_p1_before : Int32) (v_p1_ribbon : Int32) (v_p1_right : Int32) (v_p1_pale : Int32) (v_p1_dark : Int32) (v_p1_ghosts : Int32) (v_p1_printed : Int32) (v_p1_heats : Nat → Int32) (v_p1_figures : Nat → Int32) (v_p1_queue : Nat → Int32) (w_ring_el_H : Nat → Nat → Int32) (w_ring_el_F : Nat → Nat → Int32) (w_ring_el_Q : Nat → Nat → Int32) (w_ring_el_I : Nat → Nat → Int32) {K : Int32 → Int32 → (Nat → Nat → Int32) → (Nat → Nat → Int32) → (Nat → Nat → Int32) → (Nat → Nat → Int32) → Prop} (h : P_X0_remember v_z_first v_z_count v_p1_queued v_p1_last v_p1_before v_p1_ribbon v_p1_right v_p1_pale v_p1_dark v_p1_ghosts v_p1_printed v_p1_heats v_p1_figures v_p1_queue w_ring_el_H w_ring_el_F w_ring_el_Q w_ring_el_I K) : g_CV l E yX0_remember cX0_remember 2 (g_Rm 2 61) [.ref h0, .ref h2] (W_X0_remember E h0 h1 h2 h3 h4 h5 q6 v_z_first v_z_count v_p1_queued v_p1_last v_p1_before v_p1_ribbon v_p1_right v_p1_pale v_p1_dark v_p1_ghosts v_p1_printed v_p1_heats v_p1_figures v_p1_queue w_ring_el_H w_ring_el_F w_ring_el_Q w_ring_el_I) (fun (u : Int32 × Int32 × (Nat → Nat → Int32) × (Nat → Nat → Int32) × (Nat → Nat → Int32) × (Nat → Nat → Int32)) => K u.1 u.2.1 u.2.2.1 u.2.2.2.1 u.2.2.2.2.1 u.2.2.2.2.2) (fun (u : Int32 × Int32 × (Nat → Nat → Int32) × (Nat → Nat → Int32) × (Nat → Nat → Int32) × (Nat → Nat → Int32)) => (W_X0_remember E h0 h1 h2 h3 h4 h5 q6 u.1 u.2.1 v_p1_queued v_p1_last v_p1_before v_p1_ribbon v_p1_right v_p1_pale v_p1_dark v_p1_ghosts v_p1_printed v_p1_heats v_p1_figures v_p1_queue u.2.2.1 u.2.2.2.1 u.2.2.2.2.1 u.2.2.2.2.2)) := by
  refine g_entV RX0 (by decide) rfl (Nat.le_of_ble_eq_true rfl) ?_
  intro Γ X hE hl ret
  subst hE
  subst hl
  unfold P_X0_remember at h
  show g_G Γ (g_Rm 2 61) 2 0 [(0, .ref h0), (1, .ref h2)] [] (W_X0_remember (g_env Γ) h0 h1 h2 h3 h4 h5 q6 v_z_first v_z_count v_p1_queued v_p1_last v_p1_before v_p1_ribbon v_p1_right v_p1_pale v_p1_dark v_p1_ghosts v_p1_printed v_p1_heats v_p1_figures v_p1_queue w_ring_el_H w_ring_el_F w_ring_el_Q w_ring_el_I)
  refine g_aload_n 0 X dX0_remember_0 0 rfl rfl ?_
  refine g_get 1 X fa_X0_18 dX0_remember_1 0 rfl rfl ?_
  refine g_bipush 4 X (14 : Int32) dX0_remember_4 k_bp_14 ?_
  refine g_icmp_lt 6 X 28 dX0_remember_6 (by decide) (fun c => ?_) (fun c => ?_)
  · replace h := h.1 c
    refine g_aload_n 28 X dX0_remember_28 0 rfl rfl ?_
    refine g_get 29 X fa_X0_11 dX0_remember_29 0 rfl rfl ?_
    refine g_aload_n 32 X dX0_remember_32 0 rfl rfl ?_
    refine g_get 33 X fa_X0_22 dX0_remember_33 0 rfl rfl ?_
    refine g_aload_n 36 X dX0_remember_36 0 rfl rfl ?_
    refine g_get 37 X fa_X0_18 dX0_remember_37 0 rfl rfl ?_
    refine g_iadd 40 X dX0_remember_40 ?_
    refine g_bipush 41 X (14 : Int32) dX0_remember_41 k_bp_14 ?_
    refine g_irem 43 X dX0_remember_43 (by decide) ?_
    have f1 := h.1; replace h := h.2
    obtain ⟨k, hk, ek⟩ := vp_in_of f1 (by decide)
    replace h := h k hk ek
    refine g_aelt 44 X dX0_remember_44 1 rfl rfl hk ek (by decide) ?_
    clear ek
    match k, hk, h with
    | 0, _, h =>
      refine g_aload_n 45 X dX0_remember_45 1 rfl rfl ?_
      refine g_cVV 46 X (st := []) mv_X0_25 dX0_remember_46 (q6 0 0) 5 [.ref h2] (c_X5_copyFrom (q6 0 0) (q6 0 1) (q6 0 2) (q6 0 3) h2 h3 h4 h5 (w_ring_el_I 0 3) (w_ring_el_I 0 4) (w_ring_el_I 0 5) (w_ring_el_I 0 6) (w_ring_el_I 0 7) (w_ring_el_I 0 8) (w_ring_el_I 0 9) (w_ring_el_I 0 10) (w_ring_el_I 0 11) (w_ring_el_H 0) (w_ring_el_F 0) (w_ring_el_Q 0) v_p1_queued v_p1_last v_p1_before v_p1_ribbon v_p1_right v_p1_pale v_p1_dark v_p1_ghosts v_p1_printed v_p1_heats v_p1_figures v_p1_queue h) [6, 7, 8, 9, 2, 3, 4, 5] (fun u : Int32 × Int32 × Int32 × Int32 × Int32 × Int32 × Int32 × Int32 × Int32 × (Nat → Int32) × (Nat → Int32) × (Nat → Int32) => (W_X0_remember (g_env Γ) h0 h1 h2 h3 h4 h5 q6 v_z_first v_z_count v_p1_queued v_p1_last v_p1_before v_p1_ribbon v_p1_right v_p1_pale v_p1_dark v_p1_ghosts v_p1_printed v_p1_heats v_p1_figures v_p1_queue (va_up w_ring_el_H 0 u.2.2.2.2.2.2.2.2.2.1) (va_up w_ring_el_F 0 u.2.2.2.2.2.2.2.2.2.2.1) (va_up w_ring_el_Q 0 u.2.2.2.2.2.2.2.2.2.2.2) (va_up w_ring_el_I 0 (g_i9 u.1 u.2.1 u.2.2.1 u.2.2.2.1 u.2.2.2.2.1 u.2.2.2.2.2.1 u.2.2.2.2.2.2.1 u.2.2.2.2.2.2.2.1 u.2.2.2.2.2.2.2.2.1)))) rfl ⟨(Nat.le_of_ble_eq_true rfl), (Nat.le_of_ble_eq_true rfl)⟩ ⟨rfl, rfl⟩ (Nat.le_of_ble_eq_true rfl) rfl rfl rfl (by decide) (fun _ => rfl) (fun _ => rfl) (fun u h => ?_)
      obtain ⟨e_3_14, e_4_15, e_5_16, e_6_17, e_7_18, e_8_19, e_9_20, e_10_21, e_11_22, e_heats_23, e_figures_24, e_queue_25⟩ := u
      dsimp only at h ⊢
      refine g_aload_n 49 X dX0_remember_49 0 rfl rfl ?_
      refine g_dup 50 X dX0_remember_50 rfl ?_
      refine g_get 51 X fa_X0_18 dX0_remember_51 0 rfl rfl ?_
      refine g_iconst 54 X (1 : Int32) dX0_remember_54 k_ic_1 ?_
      refine g_iadd 55 X dX0_remember_55 ?_
      refine g_put 56 X (W_X0_remember (g_env Γ) h0 h1 h2 h3 h4 h5 q6 v_z_first (v_z_count + (1 : Int32)) v_p1_queued v_p1_last v_p1_before v_p1_ribbon v_p1_right v_p1_pale v_p1_dark v_p1_ghosts v_p1_printed v_p1_heats v_p1_figures v_p1_queue (va_up w_ring_el_H 0 e_heats_23) (va_up w_ring_el_F 0 e_figures_24) (va_up w_ring_el_Q 0 e_queue_25) (va_up w_ring_el_I 0 (g_i9 e_3_14 e_4_15 e_5_16 e_6_17 e_7_18 e_8_19 e_9_20 e_10_21 e_11_22))) fa_X0_18 pa_0_2 dX0_remember_56 0 rfl rfl rfl (Nat.le_of_ble_eq_true rfl) rfl ?_
      exact ret 59 _ (v_z_first, (v_z_count + (1 : Int32)), (va_up w_ring_el_H 0 e_heats_23), (va_up w_ring_el_F 0 e_figures_24), (va_up w_ring_el_Q 0 e_queue_25), (va_up w_ring_el_I 0 (g_i9 e_3_14 e_4_15 e_5_16 e_6_17 e_7_18 e_8_19 e_9_20 e_10_21 e_11_22))) dX0_remember_59 h
    | 1, _, h =>
      refine g_aload_n 45 X dX0_remember_45 1 rfl rfl ?_
      refine g_cVV 46 X (st := []) mv_X0_25 dX0_remember_46 (q6 1 0) 5 [.ref h2] (c_X5_copyFrom (q6 1 0) (q6 1 1) (q6 1 2) (q6 1 3) h2 h3 h4 h5 (w_ring_el_I 1 3) (w_ring_el_I 1 4) (w_ring_el_I 1 5) (w_ring_el_I 1 6) (w_ring_el_I 1 7) (w_ring_el_I 1 8) (w_ring_el_I 1 9) (w_ring_el_I 1 10) (w_ring_el_I 1 11) (w_ring_el_H 1) (w_ring_el_F 1) (w_ring_el_Q 1) v_p1_queued v_p1_last v_p1_before v_p1_ribbon v_p1_right v_p1_pale v_p1_dark v_p1_ghosts v_p1_printed v_p1_heats v_p1_figures v_p1_queue h) [10, 11, 12, 13, 2, 3, 4, 5] (fun u : Int32 × Int32 × Int32 × Int32 × Int32 × Int32 × Int32 × Int32 × Int32 × (Nat → Int32) × (Nat → Int32) × (Nat → Int32) => (W_X0_remember (g_env Γ) h0 h1 h2 h3 h4 h5 q6 v_z_first v_z_count v_p1_queued v_p1_last v_p1_before v_p1_ribbon v_p1_right v_p1_pale v_p1_dark v_p1_ghosts v_p1_printed v_p1_heats v_p1_figures v_p1_queue (va_up w_ring_el_H 1 u.2.2.2.2.2.2.2.2.2.1) (va_up w_ring_el_F 1 u.2.2.2.2.2.2.2.2.2.2.1) (va_up w_ring_el_Q 1 u.2.2.2.2.2.2.2.2.2.2.2) (va_up w_ring_el_I 1 (g_i9 u.1 u.2.1 u.2.2.1 u.2.2.2.1 u.2.2.2.2.1 u.2.2.2.2.2.1 u.2.2.2.2.2.2.1 u.2.2.2.2.2.2.2.1 u.2.2.2.2.2.2.2.2.1)))) rfl ⟨(Nat.le_of_ble_eq_true rfl), (Nat.le_of_ble_eq_true rfl)⟩ ⟨rfl, rfl⟩ (Nat.le_of_ble_eq_true rfl) rfl rfl rfl (by decide) (fun _ => rfl) (fun _ => rfl) (fun u h => ?_)
      obtain ⟨e_3_26, e_4_27, e_5_28, e_6_29, e_7_30, e_8_31, e_9_32, e_10_33, e_11_34, e_heats_35, e_figures_36, e_queue_37⟩ := u
      dsimp only at h ⊢
      refine g_aload_n 49 X dX0_remember_49 0 rfl rfl ?_
      refine g_dup 50 X dX0_remember_50 rfl ?_
      refine g_get 51 X fa_X0_18 dX0_remember_51 0 rfl rfl ?_
      refine g_iconst 54 X (1 : Int32) dX0_remember_54 k_ic_1 ?_
      refine g_iadd 55 X dX0_remember_55 ?_
      refine g_put 56 X (W_X0_remember (g_env Γ) h0 h1 h2 h3 h4 h5 q6 v_z_first (v_z_count + (1 : Int32)) v_p1_queued v_p1_last v_p1_before v_p1_ribbon v_p1_right v_p1_pale v_p1_dark v_p1_ghosts v_p1_printed v_p1_heats v_p1_figures v_p1_queue (va_up w_ring_el_H 1 e_heats_35) (va_up w_ring_el_F 1 e_figures_36) (va_up w_ring_el_Q 1 e_queue_37) (va_up w_ring_el_I 1 (g_i9 e_3_26 e_4_27 e_5_28 e_6_29 e_7_30 e_8_31 e_9_32 e_10_33 e_11_34))) fa_X0_18 pa_0_2 dX0_remember_56 0 rfl rfl rfl (Nat.le_of_ble_eq_true rfl) rfl ?_
      exact ret 59 _ (v_z_first, (v_z_count + (1 : Int32)), (va_up w_ring_el_H 1 e_heats_35), (va_up w_ring_el_F 1 e_figures_36), (va_up w_ring_el_Q 1 e_queue_37), (va_up w_ring_el_I 1 (g_i9 e_3_26 e_4_27 e_5_28 e_6_29 e_7_30 e_8_31 e_9_32 e_10_33 e_11_34))) dX0_remember_59 h
    | 2, _, h =>
      refine g_aload_n 45 X dX0_remember_45 1 rfl rfl ?_
      refine g_cVV 46 X (st := []) mv_X0_25 dX0_remember_46 (q6 2 0) 5 [.ref h2] (c_X5_copyFrom (q6 2 0) (q6 2 1) (q6 2 2) (q6 2 3) h2 h3 h4 h5 (w_ring_el_I 2 3) (w_ring_el_I 2 4) (w_ring_el_I 2 5) (w_ring_el_I 2 6) (w_ring_el_I 2 7) (w_ring_el_I 2 8) (w_ring_el_I 2 9) (w_ring_el_I 2 10) (w_ring_el_I 2 11) (w_ring_el_H 2) (w_ring_el_F 2) (w_ring_el_Q 2) v_p1_queued v_p1_last v_p1_before v_p1_ribbon v_p1_right v_p1_pale v_p1_dark v_p1_ghosts v_p1_printed v_p1_heats v_p1_figures v_p1_queue h) [14, 15, 16, 17, 2, 3, 4, 5] (fun u : Int32 × Int32 × Int32 × Int32 × Int32 × Int32 × Int32 × Int32 × Int32 × (Nat → Int32) × (Nat → Int32) × (Nat → Int32) => (W_X0_remember (g_env Γ) h0 h1 h2 h3 h4 h5 q6 v_z_first v_z_count v_p1_queued v_p1_last v_p1_before v_p1_ribbon v_p1_right v_p1_pale v_p1_dark v_p1_ghosts v_p1_printed v_p1_heats v_p1_figures v_p1_queue (va_up w_ring_el_H 2 u.2.2.2.2.2.2.2.2.2.1) (va_up w_ring_el_F 2 u.2.2.2.2.2.2.2.2.2.2.1) (va_up w_ring_el_Q 2 u.2.2.2.2.2.2.2.2.2.2.2) (va_up w_ring_el_I 2 (g_i9 u.1 u.2.1 u.2.2.1 u.2.2.2.1 u.2.2.2.2.1 u.2.2.2.2.2.1 u.2.2.2.2.2.2.1 u.2.2.2.2.2.2.2.1 u.2.2.2.2.2.2.2.2.1)))) rfl ⟨(Nat.le_of_ble_eq_true rfl), (Nat.le_of_ble_eq_true rfl)⟩ ⟨rfl, rfl⟩ (Nat.le_of_ble_eq_true rfl) rfl rfl rfl (by decide) (fun _ => rfl) (fun _ => rfl) (fun u h => ?_)
      obtain ⟨e_3_38, e_4_39, e_5_40, e_6_41, e_7_42, e_8_43, e_9_44, e_10_45, e_11_46, e_heats_47, e_figures_48, e_queue_49⟩ := u
      dsimp only at h ⊢
      refine g_aload_n 49 X dX0_remember_49 0 rfl rfl ?_
      refine g_dup 50 X dX0_remember_50 rfl ?_
      refine g_get 51 X fa_X0_18 dX0_remember_51 0 rfl rfl ?_
      refine g_iconst 54 X (1 : Int32) dX0_remember_54 k_ic_1 ?_
      refine g_iadd 55 X dX0_remember_55 ?_
      refine g_put 56 X (W_X0_remember (g_env Γ) h0 h1 h2 h3 h4 h5 q6 v_z_first (v_z_count + (1 : Int32)) v_p1_queued v_p1_last v_p1_before v_p1_ribbon v_p1_right v_p1_pale v_p1_dark v_p1_ghosts v_p1_printed v_p1_heats v_p1_figures v_p1_queue (va_up w_ring_el_H 2 e_heats_47) (va_up w_ring_el_F 2 e_figures_48) (va_up w_ring_el_Q 2 e_queue_49) (va_up w_ring_el_I 2 (g_i9 e_3_38 e_4_39 e_5_40 e_6_41 e_7_42 e_8_43 e_9_44 e_10_45 e_11_46))) fa_X0_18 pa_0_2 dX0_remember_56 0 rfl rfl rfl (Nat.le_of_ble_eq_true rfl) rfl ?_
      exact ret 59 _ (v_z_first, (v_z_count + (1 : Int32)), (va_up w_ring_el_H 2 e_heats_47), (va_up w_ring_el_F 2 e_figures_48), (va_up w_ring_el_Q 2 e_queue_49), (va_up w_ring_el_I 2 (g_i9 e_3_38 e_4_39 e_5_40 e_6_41 e_7_42 e_8_43 e_9_44 e_10_45 e_11_46))) dX0_remember_59 h
    | 3, _, h =>
      refine g_aload_n 45 X dX0_remember_45 1 rfl rfl ?_
      refine g_cVV 46 X (st := []) mv_X0_25 dX0_remember_46 (q6 3 0) 5 [.ref h2] (c_X5_copyFrom (q6 3 0) (q6 3 1) (q6 3 2) (q6 3 3) h2 h3 h4 h5 (w_ring_el_I 3 3) (w_ring_el_I 3 4) (w_ring_el_I 3 5) (w_ring_el_I 3 6) (w_ring_el_I 3 7) (w_ring_el_I 3 8) (w_ring_el_I 3 9) (w_ring_el_I 3 10) (w_ring_el_I 3 11) (w_ring_el_H 3) (w_ring_el_F 3) (w_ring_el_Q 3) v_p1_queued v_p1_last v_p1_before v_p1_ribbon v_p1_right v_p1_pale v_p1_dark v_p1_ghosts v_p1_printed v_p1_heats v_p1_figures v_p1_queue h) [18, 19, 20, 21, 2, 3, 4, 5] (fun u : Int32 × Int32 × Int32 × Int32 × Int32 × Int32 × Int32 × Int32 × Int32 × (Nat → Int32) × (Nat → Int32) × (Nat → Int32) => (W_X0_remember (g_env Γ) h0 h1 h2 h3 h4 h5 q6 v_z_first v_z_count v_p1_queued v_p1_last v_p1_before v_p1_ribbon v_p1_right v_p1_pale v_p1_dark v_p1_ghosts v_p1_printed v_p1_heats v_p1_figures v_p1_queue (va_up w_ring_el_H 3 u.2.2.2.2.2.2.2.2.2.1) (va_up w_ring_el_F 3 u.2.2.2.2.2.2.2.2.2.2.1) (va_up w_ring_el_Q 3 u.2.2.2.2.2.2.2.2.2.2.2) (va_up w_ring_el_I 3 (g_i9 u.1 u.2.1 u.2.2.1 u.2.2.2.1 u.2.2.2.2.1 u.2.2.2.2.2.1 u.2.2.2.2.2.2.1 u.2.2.2.2.2.2.2.1 u.2.2.2.2.2.2.2.2.1)))) rfl ⟨(Nat.le_of_ble_eq_true rfl), (Nat.le_of_ble_eq_true rfl)⟩ ⟨rfl, rfl⟩ (Nat.le_of_ble_eq_true rfl) rfl rfl rfl (by decide) (fun _ => rfl) (fun _ => rfl) (fun u h => ?_)
      obtain ⟨e_3_50, e_4_51, e_5_52, e_6_53, e_7_54, e_8_55, e_9_56, e_10_57, e_11_58, e_heats_59, e_figures_60, e_queue_61⟩ := u
      dsimp only at h ⊢
      refine g_aload_n 49 X dX0_remember_49 0 rfl rfl ?_
      refine g_dup 50 X dX0_remember_50 rfl ?_
      refine g_get 51 X fa_X0_18 dX0_remember_51 0 rfl rfl ?_
      refine g_iconst 54 X (1 : Int32) dX0_remember_54 k_ic_1 ?_
      refine g_iadd 55 X dX0_remember_55 ?_
      refine g_put 56 X (W_X0_remember (g_env Γ) h0 h1 h2 h3 h4 h5 q6 v_z_first (v_z_count + (1 : Int32)) v_p1_queued v_p1_last v_p1_before v_p1_ribbon v_p1_right v_p1_pale v_p1_dark v_p1_ghosts v_p1_printed v_p1_heats v_p1_figures v_p1_queue (va_up w_ring_el_H 3 e_heats_59) (va_up w_ring_el_F 3 e_figures_60) (va_up w_ring_el_Q 3 e_queue_61) (va_up w_ring_el_I 3 (g_i9 e_3_50 e_4_51 e_5_52 e_6_53 e_7_54 e_8_55 e_9_56 e_10_57 e_11_58))) fa_X0_18 pa_0_2 dX0_remember_56 0 rfl rfl rfl (Nat.le_of_ble_eq_true rfl) rfl ?_
      exact ret 59 _ (v_z_first, (v_z_count + (1 : Int32)), (va_up w_ring_el_H 3 e_heats_59), (va_up w_ring_el_F 3 e_figures_60), (va_up w_ring_el_Q 3 e_queue_61), (va_up w_ring_el_I 3 (g_i9 e_3_50 e_4_51 e_5_52 e_6_53 e_7_54 e_8_55 e_9_56 e_10_57 e_11_58))) dX0_remember_59 h
    | 4, _, h =>
      refine g_aload_n 45 X dX0_remember_45 1 rfl rfl ?_
      refine g_cVV 46 X (st := []) mv_X0_25 dX0_remember_46 (q6 4 0) 5 [.ref h2] (c_X5_copyFrom (q6 4 0) (q6 4 1) (q6 4 2) (q6 4 3) h2 h3 h4 h5 (w_ring_el_I 4 3) (w_ring_el_I 4 4) (w_ring_el_I 4 5) (w_ring_el_I 4 6) (w_ring_el_I 4 7) (w_ring_el_I 4 8) (w_ring_el_I 4 9) (w_ring_el_I 4 10) (w_ring_el_I 4 11) (w_ring_el_H 4) (w_ring_el_F 4) (w_ring_el_Q 4) v_p1_queued v_p1_last v_p1_before v_p1_ribbon v_p1_right v_p1_pale v_p1_dark v_p1_ghosts v_p1_printed v_p1_heats v_p1_figures v_p1_queue h) [22, 23, 24, 25, 2, 3, 4, 5] (fun u : Int32 × Int32 × Int32 × Int32 × Int32 × Int32 × Int32 × Int32 × Int32 × (Nat → Int32) × (Nat → Int32) × (Nat → Int32) => (W_X0_remember (g_env Γ) h0 h1 h2 h3 h4 h5 q6 v_z_first v_z_count v_p1_queued v_p1_last v_p1_before v_p1_ribbon v_p1_right v_p1_pale v_p1_dark v_p1_ghosts v_p1_printed v_p1_heats v_p1_figures v_p1_queue (va_up w_ring_el_H 4 u.2.2.2.2.2.2.2.2.2.1) (va_up w_ring_el_F 4 u.2.2.2.2.2.2.2.2.2.2.1) (va_up w_ring_el_Q 4 u.2.2.2.2.2.2.2.2.2.2.2) (va_up w_ring_el_I 4 (g_i9 u.1 u.2.1 u.2.2.1 u.2.2.2.1 u.2.2.2.2.1 u.2.2.2.2.2.1 u.2.2.2.2.2.2.1 u.2.2.2.2.2.2.2.1 u.2.2.2.2.2.2.2.2.1)))) rfl ⟨(Nat.le_of_ble_eq_true rfl), (Nat.le_of_ble_eq_true rfl)⟩ ⟨rfl, rfl⟩ (Nat.le_of_ble_eq_true rfl) rfl rfl rfl (by decide) (fun _ => rfl) (fun _ => rfl) (fun u h => ?_)
      obtain ⟨e_3_62, e_4_63, e_5_64, e_6_65, e_7_66, e_8_67, e_9_68, e_10_69, e_11_70, e_heats_71, e_figures_72, e_queue_73⟩ := u
      dsimp only at h ⊢
      refine g_aload_n 49 X dX0_remember_49 0 rfl rfl ?_
      refine g_dup 50 X dX0_remember_50 rfl ?_
      refine g_get 51 X fa_X0_18 dX0_remember_51 0 rfl rfl ?_
      refine g_iconst 54 X (1 : Int32) dX0_remember_54 k_ic_1 ?_
      refine g_iadd 55 X dX0_remember_55 ?_
      refine g_put 56 X (W_X0_remember (g_env Γ) h0 h1 h2 h3 h4 h5 q6 v_z_first (v_z_count + (1 : Int32)) v_p1_queued v_p1_last v_p1_before v_p1_ribbon v_p1_right v_p1_pale v_p1_dark v_p1_ghosts v_p1_printed v_p1_heats v_p1_figures v_p1_queue (va_up w_ring_el_H 4 e_heats_71) (va_up w_ring_el_F 4 e_figures_72) (va_up w_ring_el_Q 4 e_queue_73) (va_up w_ring_el_I 4 (g_i9 e_3_62 e_4_63 e_5_64 e_6_65 e_7_66 e_8_67 e_9_68 e_10_69 e_11_70))) fa_X0_18 pa_0_2 dX0_remember_56 0 rfl rfl rfl (Nat.le_of_ble_eq_true rfl) rfl ?_
      exact ret 59 _ (v_z_first, (v_z_count + (1 : Int32)), (va_up w_ring_el_H 4 e_heats_71), (va_up w_ring_el_F 4 e_figures_72), (va_up w_ring_el_Q 4 e_queue_73), (va_up w_ring_el_I 4 (g_i9 e_3_62 e_4_63 e_5_64 e_6_65 e_7_66 e_8_67 e_9_68 e_10_69 e_11_70))) dX0_remember_59 h
    | 5, _, h =>
      refine g_aload_n 45 X dX0_remember_45 1 rfl rfl ?_
      refine g_cVV 46 X (st := []) mv_X0_25 dX0_remember_46 (q6 5 0) 5 [.ref h2] (c_X5_copyFrom (q6 5 0) (q6 5 1) (q6 5 2) (q6 5 3) h2 h3 h4 h5 (w_ring_el_I 5 3) (w_ring_el_I 5 4) (w_ring_el_I 5 5) (w_ring_el_I 5 6) (w_ring_el_I 5 7) (w_ring_el_I 5 8) (w_ring_el_I 5 9) (w_ring_el_I 5 10) (w_ring_el_I 5 11) (w_ring_el_H 5) (w_ring_el_F 5) (w_ring_el_Q 5) v_p1_queued v_p1_last v_p1_before v_p1_ribbon v_p1_right v_p1_pale v_p1_dark v_p1_ghosts v_p1_printed v_p1_heats v_p1_figures v_p1_queue h) [26, 27, 28, 29, 2, 3, 4, 5] (fun u : Int32 × Int32 × Int32 × Int32 × Int32 × Int32 × Int32 × Int32 × Int32 × (Nat → Int32) × (Nat → Int32) × (Nat → Int32) => (W_X0_remember (g_env Γ) h0 h1 h2 h3 h4 h5 q6 v_z_first v_z_count v_p1_queued v_p1_last v_p1_before v_p1_ribbon v_p1_right v_p1_pale v_p1_dark v_p1_ghosts v_p1_printed v_p1_heats v_p1_figures v_p1_queue (va_up w_ring_el_H 5 u.2.2.2.2.2.2.2.2.2.1) (va_up w_ring_el_F 5 u.2.2.2.2.2.2.2.2.2.2.1) (va_up w_ring_el_Q 5 u.2.2.2.2.2.2.2.2.2.2.2) (va_up w_ring_el_I 5 (g_i9 u.1 u.2.1 u.2.2.1 u.2.2.2.1 u.2.2.2.2.1 u.2.2.2.2.2.1 u.2.2.2.2.2.2.1 u.2.2.2.2.2.2.2.1 u.2.2.2.2.2.2.2.2.1)))) rfl ⟨(Nat.le_of_ble_eq_true rfl), (Nat.le_of_ble_eq_true rfl)⟩ ⟨rfl, rfl⟩ (Nat.le_of_ble_eq_true rfl) rfl rfl rfl (by decide) (fun _ => rfl) (fun _ => rfl) (fun u h => ?_)
      obtain ⟨e_3_74, e_4_75, e_5_76, e_6_77, e_7_78, e_8_79, e_9_80, e_10_81, e_11_82, e_heats_83, e_figures_84, e_queue_85⟩ := u
      dsimp only at h ⊢
      refine g_aload_n 49 X dX0_remember_49 0 rfl rfl ?_
      refine g_dup 50 X dX0_remember_50 rfl ?_
      refine g_get 51 X fa_X0_18 dX0_remember_51 0 rfl rfl ?_
      refine g_iconst 54 X (1 : Int32) dX0_remember_54 k_ic_1 ?_
      refine g_iadd 55 X dX0_remember_55 ?_
      refine g_put 56 X (W_X0_remember (g_env Γ) h0 h1 h2 h3 h4 h5 q6 v_z_first (v_z_count + (1 : Int32)) v_p1_queued v_p1_last v_p1_before v_p1_ribbon v_p1_right v_p1_pale v_p1_dark v_p1_ghosts v_p1_printed v_p1_heats v_p1_figures v_p1_queue (va_up w_ring_el_H 5 e_heats_83) (va_up w_ring_el_F 5 e_figures_84) (va_up w_ring_el_Q 5 e_queue_85) (va_up w_ring_el_I 5 (g_i9 e_3_74 e_4_75 e_5_76 e_6_77 e_7_78 e_8_79 e_9_80 e_10_81 e_11_82))) fa_X0_18 pa_0_2 dX0_remember_56 0 rfl rfl rfl (Nat.le_of_ble_eq_true rfl) rfl ?_
      exact ret 59 _ (v_z_first, (v_z_count + (1 : Int32)), (va_up w_ring_el_H 5 e_heats_83), (va_up w_ring_el_F 5 e_figures_84), (va_up w_ring_el_Q 5 e_queue_85), (va_up w_ring_el_I 5 (g_i9 e_3_74 e_4_75 e_5_76 e_6_77 e_7_78 e_8_79 e_9_80 e_10_81 e_11_82))) dX0_remember_59 h
    | 6, _, h =>
      refine g_aload_n 45 X dX0_remember_45 1 rfl rfl ?_
      refine g_cVV 46 X (st := []) mv_X0_25 dX0_remember_46 (q6 6 0) 5 [.ref h2] (c_X5_copyFrom (q6 6 0) (q6 6 1) (q6 6 2) (q6 6 3) h2 h3 h4 h5 (w_ring_el_I 6 3) (w_ring_el_I 6 4) (w_ring_el_I 6 5) (w_ring_el_I 6 6) (w_ring_el_I 6 7) (w_ring_el_I 6 8) (w_ring_el_I 6 9) (w_ring_el_I 6 10) (w_ring_el_I 6 11) (w_ring_el_H 6) (w_ring_el_F 6) (w_ring_el_Q 6) v_p1_queued v_p1_last v_p1_before v_p1_ribbon v_p1_right v_p1_pale v_p1_dark v_p1_ghosts v_p1_printed v_p1_heats v_p1_figures v_p1_queue h) [30, 31, 32, 33, 2, 3, 4, 5] (fun u : Int32 × Int32 × Int32 × Int32 × Int32 × Int32 × Int32 × Int32 × Int32 × (Nat → Int32) × (Nat → Int32) × (Nat → Int32) => (W_X0_remember (g_env Γ) h0 h1 h2 h3 h4 h5 q6 v_z_first v_z_count v_p1_queued v_p1_last v_p1_before v_p1_ribbon v_p1_right v_p1_pale v_p1_dark v_p1_ghosts v_p1_printed v_p1_heats v_p1_figures v_p1_queue (va_up w_ring_el_H 6 u.2.2.2.2.2.2.2.2.2.1) (va_up w_ring_el_F 6 u.2.2.2.2.2.2.2.2.2.2.1) (va_up w_ring_el_Q 6 u.2.2.2.2.2.2.2.2.2.2.2) (va_up w_ring_el_I 6 (g_i9 u.1 u.2.1 u.2.2.1 u.2.2.2.1 u.2.2.2.2.1 u.2.2.2.2.2.1 u.2.2.2.2.2.2.1 u.2.2.2.2.2.2.2.1 u.2.2.2.2.2.2.2.2.1)))) rfl ⟨(Nat.le_of_ble_eq_true rfl), (Nat.le_of_ble_eq_true rfl)⟩ ⟨rfl, rfl⟩ (Nat.le_of_ble_eq_true rfl) rfl rfl rfl (by decide) (fun _ => rfl) (fun _ => rfl) (fun u h => ?_)
      obtain ⟨e_3_86, e_4_87, e_5_88, e_6_89, e_7_90, e_8_91, e_9_92, e_10_93, e_11_94, e_heats_95, e_figures_96, e_queue_97⟩ := u
      dsimp only at h ⊢
      refine g_aload_n 49 X dX0_remember_49 0 rfl rfl ?_
      refine g_dup 50 X dX0_remember_50 rfl ?_
      refine g_get 51 X fa_X0_18 dX0_remember_51 0 rfl rfl ?_
      refine g_iconst 54 X (1 : Int32) dX0_remember_54 k_ic_1 ?_
      refine g_iadd 55 X dX0_remember_55 ?_
      refine g_put 56 X (W_X0_remember (g_env Γ) h0 h1 h2 h3 h4 h5 q6 v_z_first (v_z_count + (1 : Int32)) v_p1_queued v_p1_last v_p1_before v_p1_ribbon v_p1_right v_p1_pale v_p1_dark v_p1_ghosts v_p1_printed v_p1_heats v_p1_figures v_p1_queue (va_up w_ring_el_H 6 e_heats_95) (va_up w_ring_el_F 6 e_figures_96) (va_up w_ring_el_Q 6 e_queue_97) (va_up w_ring_el_I 6 (g_i9 e_3_86 e_4_87 e_5_88 e_6_89 e_7_90 e_8_91 e_9_92 e_10_93 e_11_94))) fa_X0_18 pa_0_2 dX0_remember_56 0 rfl rfl rfl (Nat.le_of_ble_eq_true rfl) rfl ?_
      exact ret 59 _ (v_z_first, (v_z_count + (1 : Int32)), (va_up w_ring_el_H 6 e_heats_95), (va_up w_ring_el_F 6 e_figures_96), (va_up w_ring_el_Q 6 e_queue_97), (va_up w_ring_el_I 6 (g_i9 e_3_86 e_4_87 e_5_88 e_6_89 e_7_90 e_8_91 e_9_92 e_10_93 e_11_94))) dX0_remember_59 h
    | 7, _, h =>
      refine g_aload_n 45 X dX0_remember_45 1 rfl rfl ?_
      refine g_cVV 46 X (st := []) mv_X0_25 dX0_remember_46 (q6 7 0) 5 [.ref h2] (c_X5_copyFrom (q6 7 0) (q6 7 1) (q6 7 2) (q6 7 3) h2 h3 h4 h5 (w_ring_el_I 7 3) (w_ring_el_I 7 4) (w_ring_el_I 7 5) (w_ring_el_I 7 6) (w_ring_el_I 7 7) (w_ring_el_I 7 8) (w_ring_el_I 7 9) (w_ring_el_I 7 10) (w_ring_el_I 7 11) (w_ring_el_H 7) (w_ring_el_F 7) (w_ring_el_Q 7) v_p1_queued v_p1_last v_p1_before v_p1_ribbon v_p1_right v_p1_pale v_p1_dark v_p1_ghosts v_p1_printed v_p1_heats v_p1_figures v_p1_queue h) [34, 35, 36, 37, 2, 3, 4, 5] (fun u : Int32 × Int32 × Int32 × Int32 × Int32 × Int32 × Int32 × Int32 × Int32 × (Nat → Int32) × (Nat → Int32) × (Nat → Int32) => (W_X0_remember (g_env Γ) h0 h1 h2 h3 h4 h5 q6 v_z_first v_z_count v_p1_queued v_p1_last v_p1_before v_p1_ribbon v_p1_right v_p1_pale v_p1_dark v_p1_ghosts v_p1_printed v_p1_heats v_p1_figures v_p1_queue (va_up w_ring_el_H 7 u.2.2.2.2.2.2.2.2.2.1) (va_up w_ring_el_F 7 u.2.2.2.2.2.2.2.2.2.2.1) (va_up w_ring_el_Q 7 u.2.2.2.2.2.2.2.2.2.2.2) (va_up w_ring_el_I 7 (g_i9 u.1 u.2.1 u.2.2.1 u.2.2.2.1 u.2.2.2.2.1 u.2.2.2.2.2.1 u.2.2.2.2.2.2.1 u.2.2.2.2.2.2.2.1 u.2.2.2.2.2.2.2.2.1)))) rfl ⟨(Nat.le_of_ble_eq_true rfl), (Nat.le_of_ble_eq_true rfl)⟩ ⟨rfl, rfl⟩ (Nat.le_of_ble_eq_true rfl) rfl rfl rfl (by decide) (fun _ => rfl) (fun _ => rfl) (fun u h => ?_)
      obtain ⟨e_3_98, e_4_99, e_5_100, e_6_101, e_7_102, e_8_103, e_9_104, e_10_105, e_11_106, e_heats_107, e_figures_108, e_queue_109⟩ := u
      dsimp only at h ⊢
      refine g_aload_n 49 X dX0_remember_49 0 rfl rfl ?_
      refine g_dup 50 X dX0_remember_50 rfl ?_
      refine g_get 51 X fa_X0_18 dX0_remember_51 0 rfl rfl ?_
      refine g_iconst 54 X (1 : Int32) dX0_remember_54 k_ic_1 ?_
      refine g_iadd 55 X dX0_remember_55 ?_
      refine g_put 56 X (W_X0_remember (g_env Γ) h0 h1 h2 h3 h4 h5 q6 v_z_first (v_z_count + (1 : Int32)) v_p1_queued v_p1_last v_p1_before v_p1_ribbon v_p1_right v_p1_pale v_p1_dark v_p1_ghosts v_p1_printed v_p1_heats v_p1_figures v_p1_queue (va_up w_ring_el_H 7 e_heats_107) (va_up w_ring_el_F 7 e_figures_108) (va_up w_ring_el_Q 7 e_queue_109) (va_up w_ring_el_I 7 (g_i9 e_3_98 e_4_99 e_5_100 e_6_101 e_7_102 e_8_103 e_9_104 e_10_105 e_11_106))) fa_X0_18 pa_0_2 dX0_remember_56 0 rfl rfl rfl (Nat.le_of_ble_eq_true rfl) rfl ?_
      exact ret 59 _ (v_z_first, (v_z_count + (1 : Int32)), (va_up w_ring_el_H 7 e_heats_107), (va_up w_ring_el_F 7 e_figures_108), (va_up w_ring_el_Q 7 e_queue_109), (va_up w_ring_el_I 7 (g_i9 e_3_98 e_4_99 e_5_100 e_6_101 e_7_102 e_8_103 e_9_104 e_10_105 e_11_106))) dX0_remember_59 h
    | 8, _, h =>
      refine g_aload_n 45 X dX0_remember_45 1 rfl rfl ?_
      refine g_cVV 46 X (st := []) mv_X0_25 dX0_remember_46 (q6 8 0) 5 [.ref h2] (c_X5_copyFrom (q6 8 0) (q6 8 1) (q6 8 2) (q6 8 3) h2 h3 h4 h5 (w_ring_el_I 8 3) (w_ring_el_I 8 4) (w_ring_el_I 8 5) (w_ring_el_I 8 6) (w_ring_el_I 8 7) (w_ring_el_I 8 8) (w_ring_el_I 8 9) (w_ring_el_I 8 10) (w_ring_el_I 8 11) (w_ring_el_H 8) (w_ring_el_F 8) (w_ring_el_Q 8) v_p1_queued v_p1_last v_p1_before v_p1_ribbon v_p1_right v_p1_pale v_p1_dark v_p1_ghosts v_p1_printed v_p1_heats v_p1_figures v_p1_queue h) [38, 39, 40, 41, 2, 3, 4, 5] (fun u : Int32 × Int32 × Int32 × Int32 × Int32 × Int32 × Int32 × Int32 × Int32 × (Nat → Int32) × (Nat → Int32) × (Nat → Int32) => (W_X0_remember (g_env Γ) h0 h1 h2 h3 h4 h5 q6 v_z_first v_z_count v_p1_queued v_p1_last v_p1_before v_p1_ribbon v_p1_right v_p1_pale v_p1_dark v_p1_ghosts v_p1_printed v_p1_heats v_p1_figures v_p1_queue (va_up w_ring_el_H 8 u.2.2.2.2.2.2.2.2.2.1) (va_up w_ring_el_F 8 u.2.2.2.2.2.2.2.2.2.2.1) (va_up w_ring_el_Q 8 u.2.2.2.2.2.2.2.2.2.2.2) (va_up w_ring_el_I 8 (g_i9 u.1 u.2.1 u.2.2.1 u.2.2.2.1 u.2.2.2.2.1 u.2.2.2.2.2.1 u.2.2.2.2.2.2.1 u.2.2.2.2.2.2.2.1 u.2.2.2.2.2.2.2.2.1)))) rfl ⟨(Nat.le_of_ble_eq_true rfl), (Nat.le_of_ble_eq_true rfl)⟩ ⟨rfl, rfl⟩ (Nat.le_of_ble_eq_true rfl) rfl rfl rfl (by decide) (fun _ => rfl) (fun _ => rfl) (fun u h => ?_)
      obtain ⟨e_3_110, e_4_111, e_5_112, e_6_113, e_7_114, e_8_115, e_9_116, e_10_117, e_11_118, e_heats_119, e_figures_120, e_queue_121⟩ := u
      dsimp only at h ⊢
      refine g_aload_n 49 X dX0_remember_49 0 rfl rfl ?_
      refine g_dup 50 X dX0_remember_50 rfl ?_
      refine g_get 51 X fa_X0_18 dX0_remember_51 0 rfl rfl ?_
      refine g_iconst 54 X (1 : Int32) dX0_remember_54 k_ic_1 ?_
      refine g_iadd 55 X dX0_remember_55 ?_
      refine g_put 56 X (W_X0_remember (g_env Γ) h0 h1 h2 h3 h4 h5 q6 v_z_first (v_z_count + (1 : Int32)) v_p1_queued v_p1_last v_p1_before v_p1_ribbon v_p1_right v_p1_pale v_p1_dark v_p1_ghosts v_p1_printed v_p1_heats v_p1_figures v_p1_queue (va_up w_ring_el_H 8 e_heats_119) (va_up w_ring_el_F 8 e_figures_120) (va_up w_ring_el_Q 8 e_queue_121) (va_up w_ring_el_I 8 (g_i9 e_3_110 e_4_111 e_5_112 e_6_113 e_7_114 e_8_115 e_9_116 e_10_117 e_11_118))) fa_X0_18 pa_0_2 dX0_remember_56 0 rfl rfl rfl (Nat.le_of_ble_eq_true rfl) rfl ?_
      exact ret 59 _ (v_z_first, (v_z_count + (1 : Int32)), (va_up w_ring_el_H 8 e_heats_119), (va_up w_ring_el_F 8 e_figures_120), (va_up w_ring_el_Q 8 e_queue_121), (va_up w_ring_el_I 8 (g_i9 e_3_110 e_4_111 e_5_112 e_6_113 e_7_114 e_8_115 e_9_116 e_10_117 e_11_118))) dX0_remember_59 h
    | 9, _, h =>
      refine g_aload_n 45 X dX0_remember_45 1 rfl rfl ?_
      refine g_cVV 46 X (st := []) mv_X0_25 dX0_remember_46 (q6 9 0) 5 [.ref h2] (c_X5_copyFrom (q6 9 0) (q6 9 1) (q6 9 2) (q6 9 3) h2 h3 h4 h5 (w_ring_el_I 9 3) (w_ring_el_I 9 4) (w_ring_el_I 9 5) (w_ring_el_I 9 6) (w_ring_el_I 9 7) (w_ring_el_I 9 8) (w_ring_el_I 9 9) (w_ring_el_I 9 10) (w_ring_el_I 9 11) (w_ring_el_H 9) (w_ring_el_F 9) (w_ring_el_Q 9) v_p1_queued v_p1_last v_p1_before v_p1_ribbon v_p1_right v_p1_pale v_p1_dark v_p1_ghosts v_p1_printed v_p1_heats v_p1_figures v_p1_queue h) [42, 43, 44, 45, 2, 3, 4, 5] (fun u : Int32 × Int32 × Int32 × Int32 × Int32 × Int32 × Int32 × Int32 × Int32 × (Nat → Int32) × (Nat → Int32) × (Nat → Int32) => (W_X0_remember (g_env Γ) h0 h1 h2 h3 h4 h5 q6 v_z_first v_z_count v_p1_queued v_p1_last v_p1_before v_p1_ribbon v_p1_right v_p1_pale v_p1_dark v_p1_ghosts v_p1_printed v_p1_heats v_p1_figures v_p1_queue (va_up w_ring_el_H 9 u.2.2.2.2.2.2.2.2.2.1) (va_up w_ring_el_F 9 u.2.2.2.2.2.2.2.2.2.2.1) (va_up w_ring_el_Q 9 u.2.2.2.2.2.2.2.2.2.2.2) (va_up w_ring_el_I 9 (g_i9 u.1 u.2.1 u.2.2.1 u.2.2.2.1 u.2.2.2.2.1 u.2.2.2.2.2.1 u.2.2.2.2.2.2.1 u.2.2.2.2.2.2.2.1 u.2.2.2.2.2.2.2.2.1)))) rfl ⟨(Nat.le_of_ble_eq_true rfl), (Nat.le_of_ble_eq_true rfl)⟩ ⟨rfl, rfl⟩ (Nat.le_of_ble_eq_true rfl) rfl rfl rfl (by decide) (fun _ => rfl) (fun _ => rfl) (fun u h => ?_)
      obtain ⟨e_3_122, e_4_123, e_5_124, e_6_125, e_7_126, e_8_127, e_9_128, e_10_129, e_11_130, e_heats_131, e_figures_132, e_queue_133⟩ := u
      dsimp only at h ⊢
      refine g_aload_n 49 X dX0_remember_49 0 rfl rfl ?_
      refine g_dup 50 X dX0_remember_50 rfl ?_
      refine g_get 51 X fa_X0_18 dX0_remember_51 0 rfl rfl ?_
      refine g_iconst 54 X (1 : Int32) dX0_remember_54 k_ic_1 ?_
      refine g_iadd 55 X dX0_remember_55 ?_
      refine g_put 56 X (W_X0_remember (g_env Γ) h0 h1 h2 h3 h4 h5 q6 v_z_first (v_z_count + (1 : Int32)) v_p1_queued v_p1_last v_p1_before v_p1_ribbon v_p1_right v_p1_pale v_p1_dark v_p1_ghosts v_p1_printed v_p1_heats v_p1_figures v_p1_queue (va_up w_ring_el_H 9 e_heats_131) (va_up w_ring_el_F 9 e_figures_132) (va_up w_ring_el_Q 9 e_queue_133) (va_up w_ring_el_I 9 (g_i9 e_3_122 e_4_123 e_5_124 e_6_125 e_7_126 e_8_127 e_9_128 e_10_129 e_11_130))) fa_X0_18 pa_0_2 dX0_remember_56 0 rfl rfl rfl (Nat.le_of_ble_eq_true rfl) rfl ?_
      exact ret 59 _ (v_z_first, (v_z_count + (1 : Int32)), (va_up w_ring_el_H 9 e_heats_131), (va_up w_ring_el_F 9 e_figures_132), (va_up w_ring_el_Q 9 e_queue_133), (va_up w_ring_el_I 9 (g_i9 e_3_122 e_4_123 e_5_124 e_6_125 e_7_126 e_8_127 e_9_128 e_10_129 e_11_130))) dX0_remember_59 h
    | 10, _, h =>
      refine g_aload_n 45 X dX0_remember_45 1 rfl rfl ?_
      refine g_cVV 46 X (st := []) mv_X0_25 dX0_remember_46 (q6 10 0) 5 [.ref h2] (c_X5_copyFrom (q6 10 0) (q6 10 1) (q6 10 2) (q6 10 3) h2 h3 h4 h5 (w_ring_el_I 10 3) (w_ring_el_I 10 4) (w_ring_el_I 10 5) (w_ring_el_I 10 6) (w_ring_el_I 10 7) (w_ring_el_I 10 8) (w_ring_el_I 10 9) (w_ring_el_I 10 10) (w_ring_el_I 10 11) (w_ring_el_H 10) (w_ring_el_F 10) (w_ring_el_Q 10) v_p1_queued v_p1_last v_p1_before v_p1_ribbon v_p1_right v_p1_pale v_p1_dark v_p1_ghosts v_p1_printed v_p1_heats v_p1_figures v_p1_queue h) [46, 47, 48, 49, 2, 3, 4, 5] (fun u : Int32 × Int32 × Int32 × Int32 × Int32 × Int32 × Int32 × Int32 × Int32 × (Nat → Int32) × (Nat → Int32) × (Nat → Int32) => (W_X0_remember (g_env Γ) h0 h1 h2 h3 h4 h5 q6 v_z_first v_z_count v_p1_queued v_p1_last v_p1_before v_p1_ribbon v_p1_right v_p1_pale v_p1_dark v_p1_ghosts v_p1_printed v_p1_heats v_p1_figures v_p1_queue (va_up w_ring_el_H 10 u.2.2.2.2.2.2.2.2.2.1) (va_up w_ring_el_F 10 u.2.2.2.2.2.2.2.2.2.2.1) (va_up w_ring_el_Q 10 u.2.2.2.2.2.2.2.2.2.2.2) (va_up w_ring_el_I 10 (g_i9 u.1 u.2.1 u.2.2.1 u.2.2.2.1 u.2.2.2.2.1 u.2.2.2.2.2.1 u.2.2.2.2.2.2.1 u.2.2.2.2.2.2.2.1 u.2.2.2.2.2.2.2.2.1)))) rfl ⟨(Nat.le_of_ble_eq_true rfl), (Nat.le_of_ble_eq_true rfl)⟩ ⟨rfl, rfl⟩ (Nat.le_of_ble_eq_true rfl) rfl rfl rfl (by decide) (fun _ => rfl) (fun _ => rfl) (fun u h => ?_)
      obtain ⟨e_3_134, e_4_135, e_5_136, e_6_137, e_7_138, e_8_139, e_9_140, e_10_141, e_11_142, e_heats_143, e_figures_144, e_queue_145⟩ := u
      dsimp only at h ⊢
      refine g_aload_n 49 X dX0_remember_49 0 rfl rfl ?_
      refine g_dup 50 X dX0_remember_50 rfl ?_
      refine g_get 51 X fa_X0_18 dX0_remember_51 0 rfl rfl ?_
      refine g_iconst 54 X (1 : Int32) dX0_remember_54 k_ic_1 ?_
      refine g_iadd 55 X dX0_remember_55 ?_
      refine g_put 56 X (W_X0_remember (g_env Γ) h0 h1 h2 h3 h4 h5 q6 v_z_first (v_z_count + (1 : Int32)) v_p1_queued v_p1_last v_p1_before v_p1_ribbon v_p1_right v_p1_pale v_p1_dark v_p1_ghosts v_p1_printed v_p1_heats v_p1_figures v_p1_queue (va_up w_ring_el_H 10 e_heats_143) (va_up w_ring_el_F 10 e_figures_144) (va_up w_ring_el_Q 10 e_queue_145) (va_up w_ring_el_I 10 (g_i9 e_3_134 e_4_135 e_5_136 e_6_137 e_7_138 e_8_139 e_9_140 e_10_141 e_11_142))) fa_X0_18 pa_0_2 dX0_remember_56 0 rfl rfl rfl (Nat.le_of_ble_eq_true rfl) rfl ?_
      exact ret 59 _ (v_z_first, (v_z_count + (1 : Int32)), (va_up w_ring_el_H 10 e_heats_143), (va_up w_ring_el_F 10 e_figures_144), (va_up w_ring_el_Q 10 e_queue_145), (va_up w_ring_el_I 10 (g_i9 e_3_134 e_4_135 e_5_136 e_6_137 e_7_138 e_8_139 e_9_140 e_10_141 e_11_142))) dX0_remember_59 h
    | 11, _, h =>
      refine g_aload_n 45 X dX0_remember_45 1 rfl rfl ?_
      refine g_cVV 46 X (st := []) mv_X0_25 dX0_remember_46 (q6 11 0) 5 [.ref h2] (c_X5_copyFrom (q6 11 0) (q6 11 1) (q6 11 2) (q6 11 3) h2 h3 h4 h5 (w_ring_el_I 11 3) (w_ring_el_I 11 4) (w_ring_el_I 11 5) (w_ring_el_I 11 6) (w_ring_el_I 11 7) (w_ring_el_I 11 8) (w_ring_el_I 11 9) (w_ring_el_I 11 10) (w_ring_el_I 11 11) (w_ring_el_H 11) (w_ring_el_F 11) (w_ring_el_Q 11) v_p1_queued v_p1_last v_p1_before v_p1_ribbon v_p1_right v_p1_pale v_p1_dark v_p1_ghosts v_p1_printed v_p1_heats v_p1_figures v_p1_queue h) [50, 51, 52, 53, 2, 3, 4, 5] (fun u : Int32 × Int32 × Int32 × Int32 × Int32 × Int32 × Int32 × Int32 × Int32 × (Nat → Int32) × (Nat → Int32) × (Nat → Int32) => (W_X0_remember (g_env Γ) h0 h1 h2 h3 h4 h5 q6 v_z_first v_z_count v_p1_queued v_p1_last v_p1_before v_p1_ribbon v_p1_right v_p1_pale v_p1_dark v_p1_ghosts v_p1_printed v_p1_heats v_p1_figures v_p1_queue (va_up w_ring_el_H 11 u.2.2.2.2.2.2.2.2.2.1) (va_up w_ring_el_F 11 u.2.2.2.2.2.2.2.2.2.2.1) (va_up w_ring_el_Q 11 u.2.2.2.2.2.2.2.2.2.2.2) (va_up w_ring_el_I 11 (g_i9 u.1 u.2.1 u.2.2.1 u.2.2.2.1 u.2.2.2.2.1 u.2.2.2.2.2.1 u.2.2.2.2.2.2.1 u.2.2.2.2.2.2.2.1 u.2.2.2.2.2.2.2.2.1)))) rfl ⟨(Nat.le_of_ble_eq_true rfl), (Nat.le_of_ble_eq_true rfl)⟩ ⟨rfl, rfl⟩ (Nat.le_of_ble_eq_true rfl) rfl rfl rfl (by decide) (fun _ => rfl) (fun _ => rfl) (fun u h => ?_)
      obtain ⟨e_3_146, e_4_147, e_5_148, e_6_149, e_7_150, e_8_151, e_9_152, e_10_153, e_11_154, e_heats_155, e_figures_156, e_queue_157⟩ := u
      dsimp only at h ⊢
      refine g_aload_n 49 X dX0_remember_49 0 rfl rfl ?_
      refine g_dup 50 X dX0_remember_50 rfl ?_
      refine g_get 51 X fa_X0_18 dX0_remember_51 0 rfl rfl ?_
      refine g_iconst 54 X (1 : Int32) dX0_remember_54 k_ic_1 ?_
      refine g_iadd 55 X dX0_remember_55 ?_
      refine g_put 56 X (W_X0_remember (g_env Γ) h0 h1 h2 h3 h4 h5 q6 v_z_first (v_z_count + (1 : Int32)) v_p1_queued v_p1_last v_p1_before v_p1_ribbon v_p1_right v_p1_pale v_p1_dark v_p1_ghosts v_p1_printed v_p1_heats v_p1_figures v_p1_queue (va_up w_ring_el_H 11 e_heats_155) (va_up w_ring_el_F 11 e_figures_156) (va_up w_ring_el_Q 11 e_queue_157) (va_up w_ring_el_I 11 (g_i9 e_3_146 e_4_147 e_5_148 e_6_149 e_7_150 e_8_151 e_9_152 e_10_153 e_11_154))) fa_X0_18 pa_0_2 dX0_remember_56 0 rfl rfl rfl (Nat.le_of_ble_eq_true rfl) rfl ?_
      exact ret 59 _ (v_z_first, (v_z_count + (1 : Int32)), (va_up w_ring_el_H 11 e_heats_155), (va_up w_ring_el_F 11 e_figures_156), (va_up w_ring_el_Q 11 e_queue_157), (va_up w_ring_el_I 11 (g_i9 e_3_146 e_4_147 e_5_148 e_6_149 e_7_150 e_8_151 e_9_152 e_10_153 e_11_154))) dX0_remember_59 h
    | 12, _, h =>
      refine g_aload_n 45 X dX0_remember_45 1 rfl rfl ?_
      refine g_cVV 46 X (st := []) mv_X0_25 dX0_remember_46 (q6 12 0) 5 [.ref h2] (c_X5_copyFrom (q6 12 0) (q6 12 1) (q6 12 2) (q6 12 3) h2 h3 h4 h5 (w_ring_el_I 12 3) (w_ring_el_I 12 4) (w_ring_el_I 12 5) (w_ring_el_I 12 6) (w_ring_el_I 12 7) (w_ring_el_I 12 8) (w_ring_el_I 12 9) (w_ring_el_I 12 10) (w_ring_el_I 12 11) (w_ring_el_H 12) (w_ring_el_F 12) (w_ring_el_Q 12) v_p1_queued v_p1_last v_p1_before v_p1_ribbon v_p1_right v_p1_pale v_p1_dark v_p1_ghosts v_p1_printed v_p1_heats v_p1_figures v_p1_queue h) [54, 55, 56, 57, 2, 3, 4, 5] (fun u : Int32 × Int32 × Int32 × Int32 × Int32 × Int32 × Int32 × Int32 × Int32 × (Nat → Int32) × (Nat → Int32) × (Nat → Int32) => (W_X0_remember (g_env Γ) h0 h1 h2 h3 h4 h5 q6 v_z_first v_z_count v_p1_queued v_p1_last v_p1_before v_p1_ribbon v_p1_right v_p1_pale v_p1_dark v_p1_ghosts v_p1_printed v_p1_heats v_p1_figures v_p1_queue (va_up w_ring_el_H 12 u.2.2.2.2.2.2.2.2.2.1) (va_up w_ring_el_F 12 u.2.2.2.2.2.2.2.2.2.2.1) (va_up w_ring_el_Q 12 u.2.2.2.2.2.2.2.2.2.2.2) (va_up w_ring_el_I 12 (g_i9 u.1 u.2.1 u.2.2.1 u.2.2.2.1 u.2.2.2.2.1 u.2.2.2.2.2.1 u.2.2.2.2.2.2.1 u.2.2.2.2.2.2.2.1 u.2.2.2.2.2.2.2.2.1)))) rfl ⟨(Nat.le_of_ble_eq_true rfl), (Nat.le_of_ble_eq_true rfl)⟩ ⟨rfl, rfl⟩ (Nat.le_of_ble_eq_true rfl) rfl rfl rfl (by decide) (fun _ => rfl) (fun _ => rfl) (fun u h => ?_)
      obtain ⟨e_3_158, e_4_159, e_5_160, e_6_161, e_7_162, e_8_163, e_9_164, e_10_165, e_11_166, e_heats_167, e_figures_168, e_queue_169⟩ := u
      dsimp only at h ⊢
      refine g_aload_n 49 X dX0_remember_49 0 rfl rfl ?_
      refine g_dup 50 X dX0_remember_50 rfl ?_
      refine g_get 51 X fa_X0_18 dX0_remember_51 0 rfl rfl ?_
      refine g_iconst 54 X (1 : Int32) dX0_remember_54 k_ic_1 ?_
      refine g_iadd 55 X dX0_remember_55 ?_
      refine g_put 56 X (W_X0_remember (g_env Γ) h0 h1 h2 h3 h4 h5 q6 v_z_first (v_z_count + (1 : Int32)) v_p1_queued v_p1_last v_p1_before v_p1_ribbon v_p1_right v_p1_pale v_p1_dark v_p1_ghosts v_p1_printed v_p1_heats v_p1_figures v_p1_queue (va_up w_ring_el_H 12 e_heats_167) (va_up w_ring_el_F 12 e_figures_168) (va_up w_ring_el_Q 12 e_queue_169) (va_up w_ring_el_I 12 (g_i9 e_3_158 e_4_159 e_5_160 e_6_161 e_7_162 e_8_163 e_9_164 e_10_165 e_11_166))) fa_X0_18 pa_0_2 dX0_remember_56 0 rfl rfl rfl (Nat.le_of_ble_eq_true rfl) rfl ?_
      exact ret 59 _ (v_z_first, (v_z_count + (1 : Int32)), (va_up w_ring_el_H 12 e_heats_167), (va_up w_ring_el_F 12 e_figures_168), (va_up w_ring_el_Q 12 e_queue_169), (va_up w_ring_el_I 12 (g_i9 e_3_158 e_4_159 e_5_160 e_6_161 e_7_162 e_8_163 e_9_164 e_10_165 e_11_166))) dX0_remember_59 h
    | 13, _, h =>
      refine g_aload_n 45 X dX0_remember_45 1 rfl rfl ?_
      refine g_cVV 46 X (st := []) mv_X0_25 dX0_remember_46 (q6 13 0) 5 [.ref h2] (c_X5_copyFrom (q6 13 0) (q6 13 1) (q6 13 2) (q6 13 3) h2 h3 h4 h5 (w_ring_el_I 13 3) (w_ring_el_I 13 4) (w_ring_el_I 13 5) (w_ring_el_I 13 6) (w_ring_el_I 13 7) (w_ring_el_I 13 8) (w_ring_el_I 13 9) (w_ring_el_I 13 10) (w_ring_el_I 13 11) (w_ring_el_H 13) (w_ring_el_F 13) (w_ring_el_Q 13) v_p1_queued v_p1_last v_p1_before v_p1_ribbon v_p1_right v_p1_pale v_p1_dark v_p1_ghosts v_p1_printed v_p1_heats v_p1_figures v_p1_queue h) [58, 59, 60, 61, 2, 3, 4, 5] (fun u : Int32 × Int32 × Int32 × Int32 × Int32 × Int32 × Int32 × Int32 × Int32 × (Nat → Int32) × (Nat → Int32) × (Nat → Int32) => (W_X0_remember (g_env Γ) h0 h1 h2 h3 h4 h5 q6 v_z_first v_z_count v_p1_queued v_p1_last v_p1_before v_p1_ribbon v_p1_right v_p1_pale v_p1_dark v_p1_ghosts v_p1_printed v_p1_heats v_p1_figures v_p1_queue (va_up w_ring_el_H 13 u.2.2.2.2.2.2.2.2.2.1) (va_up w_ring_el_F 13 u.2.2.2.2.2.2.2.2.2.2.1) (va_up w_ring_el_Q 13 u.2.2.2.2.2.2.2.2.2.2.2) (va_up w_ring_el_I 13 (g_i9 u.1 u.2.1 u.2.2.1 u.2.2.2.1 u.2.2.2.2.1 u.2.2.2.2.2.1 u.2.2.2.2.2.2.1 u.2.2.2.2.2.2.2.1 u.2.2.2.2.2.2.2.2.1)))) rfl ⟨(Nat.le_of_ble_eq_true rfl), (Nat.le_of_ble_eq_true rfl)⟩ ⟨rfl, rfl⟩ (Nat.le_of_ble_eq_true rfl) rfl rfl rfl (by decide) (fun _ => rfl) (fun _ => rfl) (fun u h => ?_)
      obtain ⟨e_3_170, e_4_171, e_5_172, e_6_173, e_7_174, e_8_175, e_9_176, e_10_177, e_11_178, e_heats_179, e_figures_180, e_queue_181⟩ := u
      dsimp only at h ⊢
      refine g_aload_n 49 X dX0_remember_49 0 rfl rfl ?_
      refine g_dup 50 X dX0_remember_50 rfl ?_
      refine g_get 51 X fa_X0_18 dX0_remember_51 0 rfl rfl ?_
      refine g_iconst 54 X (1 : Int32) dX0_remember_54 k_ic_1 ?_
      refine g_iadd 55 X dX0_remember_55 ?_
      refine g_put 56 X (W_X0_remember (g_env Γ) h0 h1 h2 h3 h4 h5 q6 v_z_first (v_z_count + (1 : Int32)) v_p1_queued v_p1_last v_p1_before v_p1_ribbon v_p1_right v_p1_pale v_p1_dark v_p1_ghosts v_p1_printed v_p1_heats v_p1_figures v_p1_queue (va_up w_ring_el_H 13 e_heats_179) (va_up w_ring_el_F 13 e_figures_180) (va_up w_ring_el_Q 13 e_queue_181) (va_up w_ring_el_I 13 (g_i9 e_3_170 e_4_171 e_5_172 e_6_173 e_7_174 e_8_175 e_9_176 e_10_177 e_11_178))) fa_X0_18 pa_0_2 dX0_remember_56 0 rfl rfl rfl (Nat.le_of_ble_eq_true rfl) rfl ?_
      exact ret 59 _ (v_z_first, (v_z_count + (1 : Int32)), (va_up w_ring_el_H 13 e_heats_179), (va_up w_ring_el_F 13 e_figures_180), (va_up w_ring_el_Q 13 e_queue_181), (va_up w_ring_el_I 13 (g_i9 e_3_170 e_4_171 e_5_172 e_6_173 e_7_174 e_8_175 e_9_176 e_10_177 e_11_178))) dX0_remember_59 h
    | k + 14, hk, _ => exact absurd hk (by omega)
  · replace h := h.2 c
    refine g_aload_n 9 X dX0_remember_9 0 rfl rfl ?_
    refine g_aload_n 10 X dX0_remember_10 0 rfl rfl ?_
    refine g_get 11 X fa_X0_22 dX0_remember_11 0 rfl rfl ?_
    refine g_iconst 14 X (1 : Int32) dX0_remember_14 k_ic_1 ?_
    refine g_iadd 15 X dX0_remember_15 ?_
    refine g_bipush 16 X (14 : Int32) dX0_remember_16 k_bp_14 ?_
    refine g_irem 18 X dX0_remember_18 (by decide) ?_
    refine g_put 19 X (W_X0_remember (g_env Γ) h0 h1 h2 h3 h4 h5 q6 ((v_z_first + (1 : Int32)) - (v_z_first + (1 : Int32)) / (14 : Int32) * (14 : Int32)) v_z_count v_p1_queued v_p1_last v_p1_before v_p1_ribbon v_p1_right v_p1_pale v_p1_dark v_p1_ghosts v_p1_printed v_p1_heats v_p1_figures v_p1_queue w_ring_el_H w_ring_el_F w_ring_el_Q w_ring_el_I) fa_X0_22 pa_0_1 dX0_remember_19 0 rfl rfl rfl (Nat.le_of_ble_eq_true rfl) rfl ?_
    refine g_aload_n 22 X dX0_remember_22 0 rfl rfl ?_
    refine g_bipush 23 X (13 : Int32) dX0_remember_23 k_bp_13 ?_
    refine g_put 25 X (W_X0_remember (g_env Γ) h0 h1 h2 h3 h4 h5 q6 ((v_z_first + (1 : Int32)) - (v_z_first + (1 : Int32)) / (14 : Int32) * (14 : Int32)) (13 : Int32) v_p1_queued v_p1_last v_p1_before v_p1_ribbon v_p1_right v_p1_pale v_p1_dark v_p1_ghosts v_p1_printed v_p1_heats v_p1_figures v_p1_queue w_ring_el_H w_ring_el_F w_ring_el_Q w_ring_el_I) fa_X0_18 pa_0_2 dX0_remember_25 0 rfl rfl rfl (Nat.le_of_ble_eq_true rfl) rfl ?_
    refine g_aload_n 28 X dX0_remember_28 0 rfl rfl ?_
    refine g_get 29 X fa_X0_11 dX0_remember_29 0 rfl rfl ?_
    refine g_aload_n 32 X dX0_remember_32 0 rfl rfl ?_
    refine g_get 33 X fa_X0_22 dX0_remember_33 0 rfl rfl ?_
    refine g_aload_n 36 X dX0_remember_36 0 rfl rfl ?_
    refine g_get 37 X fa_X0_18 dX0_remember_37 0 rfl rfl ?_
    refine g_iadd 40 X dX0_remember_40 ?_
    refine g_bipush 41 X (14 : Int32) dX0_remember_41 k_bp_14 ?_
    refine g_irem 43 X dX0_remember_43 (by decide) ?_
    have f182 := h.1; replace h := h.2
    obtain ⟨k, hk, ek⟩ := vp_in_of f182 (by decide)
    replace h := h k hk ek
    refine g_aelt 44 X dX0_remember_44 1 rfl rfl hk ek (by decide) ?_
    clear ek
    match k, hk, h with
    | 0, _, h =>
      refine g_aload_n 45 X dX0_remember_45 1 rfl rfl ?_
      refine g_cVV 46 X (st := []) mv_X0_25 dX0_remember_46 (q6 0 0) 5 [.ref h2] (c_X5_copyFrom (q6 0 0) (q6 0 1) (q6 0 2) (q6 0 3) h2 h3 h4 h5 (w_ring_el_I 0 3) (w_ring_el_I 0 4) (w_ring_el_I 0 5) (w_ring_el_I 0 6) (w_ring_el_I 0 7) (w_ring_el_I 0 8) (w_ring_el_I 0 9) (w_ring_el_I 0 10) (w_ring_el_I 0 11) (w_ring_el_H 0) (w_ring_el_F 0) (w_ring_el_Q 0) v_p1_queued v_p1_last v_p1_before v_p1_ribbon v_p1_right v_p1_pale v_p1_dark v_p1_ghosts v_p1_printed v_p1_heats v_p1_figures v_p1_queue h) [6, 7, 8, 9, 2, 3, 4, 5] (fun u : Int32 × Int32 × Int32 × Int32 × Int32 × Int32 × Int32 × Int32 × Int32 × (Nat → Int32) × (Nat → Int32) × (Nat → Int32) => (W_X0_remember (g_env Γ) h0 h1 h2 h3 h4 h5 q6 ((v_z_first + (1 : Int32)) - (v_z_first + (1 : Int32)) / (14 : Int32) * (14 : Int32)) (13 : Int32) v_p1_queued v_p1_last v_p1_before v_p1_ribbon v_p1_right v_p1_pale v_p1_dark v_p1_ghosts v_p1_printed v_p1_heats v_p1_figures v_p1_queue (va_up w_ring_el_H 0 u.2.2.2.2.2.2.2.2.2.1) (va_up w_ring_el_F 0 u.2.2.2.2.2.2.2.2.2.2.1) (va_up w_ring_el_Q 0 u.2.2.2.2.2.2.2.2.2.2.2) (va_up w_ring_el_I 0 (g_i9 u.1 u.2.1 u.2.2.1 u.2.2.2.1 u.2.2.2.2.1 u.2.2.2.2.2.1 u.2.2.2.2.2.2.1 u.2.2.2.2.2.2.2.1 u.2.2.2.2.2.2.2.2.1)))) rfl ⟨(Nat.le_of_ble_eq_true rfl), (Nat.le_of_ble_eq_true rfl)⟩ ⟨rfl, rfl⟩ (Nat.le_of_ble_eq_true rfl) rfl rfl rfl (by decide) (fun _ => rfl) (fun _ => rfl) (fun u h => ?_)
      obtain ⟨e_3_195, e_4_196, e_5_197, e_6_198, e_7_199, e_8_200, e_9_201, e_10_202, e_11_203, e_heats_204, e_figures_205, e_queue_206⟩ := u
      dsimp only at h ⊢
      refine g_aload_n 49 X dX0_remember_49 0 rfl rfl ?_
      refine g_dup 50 X dX0_remember_50 rfl ?_
      refine g_get 51 X fa_X0_18 dX0_remember_51 0 rfl rfl ?_
      refine g_iconst 54 X (1 : Int32) dX0_remember_54 k_ic_1 ?_
      refine g_iadd 55 X dX0_remember_55 ?_
      refine g_put 56 X (W_X0_remember (g_env Γ) h0 h1 h2 h3 h4 h5 q6 ((v_z_first + (1 : Int32)) - (v_z_first + (1 : Int32)) / (14 : Int32) * (14 : Int32)) ((13 : Int32) + (1 : Int32)) v_p1_queued v_p1_last v_p1_before v_p1_ribbon v_p1_right v_p1_pale v_p1_dark v_p1_ghosts v_p1_printed v_p1_heats v_p1_figures v_p1_queue (va_up w_ring_el_H 0 e_heats_204) (va_up w_ring_el_F 0 e_figures_205) (va_up w_ring_el_Q 0 e_queue_206) (va_up w_ring_el_I 0 (g_i9 e_3_195 e_4_196 e_5_197 e_6_198 e_7_199 e_8_200 e_9_201 e_10_202 e_11_203))) fa_X0_18 pa_0_2 dX0_remember_56 0 rfl rfl rfl (Nat.le_of_ble_eq_true rfl) rfl ?_
      exact ret 59 _ (((v_z_first + (1 : Int32)) - (v_z_first + (1 : Int32)) / (14 : Int32) * (14 : Int32)), ((13 : Int32) + (1 : Int32)), (va_up w_ring_el_H 0 e_heats_204), (va_up w_ring_el_F 0 e_figures_205), (va_up w_ring_el_Q 0 e_queue_206), (va_up w_ring_el_I 0 (g_i9 e_3_195 e_4_196 e_5_197 e_6_198 e_7_199 e_8_200 e_9_201 e_10_202 e_11_203))) dX0_remember_59 h
    | 1, _, h =>
      refine g_aload_n 45 X dX0_remember_45 1 rfl rfl ?_
      refine g_cVV 46 X (st := []) mv_X0_25 dX0_remember_46 (q6 1 0) 5 [.ref h2] (c_X5_copyFrom (q6 1 0) (q6 1 1) (q6 1 2) (q6 1 3) h2 h3 h4 h5 (w_ring_el_I 1 3) (w_ring_el_I 1 4) (w_ring_el_I 1 5) (w_ring_el_I 1 6) (w_ring_el_I 1 7) (w_ring_el_I 1 8) (w_ring_el_I 1 9) (w_ring_el_I 1 10) (w_ring_el_I 1 11) (w_ring_el_H 1) (w_ring_el_F 1) (w_ring_el_Q 1) v_p1_queued v_p1_last v_p1_before v_p1_ribbon v_p1_right v_p1_pale v_p1_dark v_p1_ghosts v_p1_printed v_p1_heats v_p1_figures v_p1_queue h) [10, 11, 12, 13, 2, 3, 4, 5] (fun u : Int32 × Int32 × Int32 × Int32 × Int32 × Int32 × Int32 × Int32 × Int32 × (Nat → Int32) × (Nat → Int32) × (Nat → Int32) => (W_X0_remember (g_env Γ) h0 h1 h2 h3 h4 h5 q6 ((v_z_first + (1 : Int32)) - (v_z_first + (1 : Int32)) / (14 : Int32) * (14 : Int32)) (13 : Int32) v_p1_queued v_p1_last v_p1_before v_p1_ribbon v_p1_right v_p1_pale v_p1_dark v_p1_ghosts v_p1_printed v_p1_heats v_p1_figures v_p1_queue (va_up w_ring_el_H 1 u.2.2.2.2.2.2.2.2.2.1) (va_up w_ring_el_F 1 u.2.2.2.2.2.2.2.2.2.2.1) (va_up w_ring_el_Q 1 u.2.2.2.2.2.2.2.2.2.2.2) (va_up w_ring_el_I 1 (g_i9 u.1 u.2.1 u.2.2.1 u.2.2.2.1 u.2.2.2.2.1 u.2.2.2.2.2.1 u.2.2.2.2.2.2.1 u.2.2.2.2.2.2.2.1 u.2.2.2.2.2.2.2.2.1)))) rfl ⟨(Nat.le_of_ble_eq_true rfl), (Nat.le_of_ble_eq_true rfl)⟩ ⟨rfl, rfl⟩ (Nat.le_of_ble_eq_true rfl) rfl rfl rfl (by decide) (fun _ => rfl) (fun _ => rfl) (fun u h => ?_)
      obtain ⟨e_3_207, e_4_208, e_5_209, e_6_210, e_7_211, e_8_212, e_9_213, e_10_214, e_11_215, e_heats_216, e_figures_217, e_queue_218⟩ := u
      dsimp only at h ⊢
      refine g_aload_n 49 X dX0_remember_49 0 rfl rfl ?_
      refine g_dup 50 X dX0_remember_50 rfl ?_
      refine g_get 51 X fa_X0_18 dX0_remember_51 0 rfl rfl ?_
      refine g_iconst 54 X (1 : Int32) dX0_remember_54 k_ic_1 ?_
      refine g_iadd 55 X dX0_remember_55 ?_
      refine g_put 56 X (W_X0_remember (g_env Γ) h0 h1 h2 h3 h4 h5 q6 ((v_z_first + (1 : Int32)) - (v_z_first + (1 : Int32)) / (14 : Int32) * (14 : Int32)) ((13 : Int32) + (1 : Int32)) v_p1_queued v_p1_last v_p1_before v_p1_ribbon v_p1_right v_p1_pale v_p1_dark v_p1_ghosts v_p1_printed v_p1_heats v_p1_figures v_p1_queue (va_up w_ring_el_H 1 e_heats_216) (va_up w_ring_el_F 1 e_figures_217) (va_up w_ring_el_Q 1 e_queue_218) (va_up w_ring_el_I 1 (g_i9 e_3_207 e_4_208 e_5_209 e_6_210 e_7_211 e_8_212 e_9_213 e_10_214 e_11_215))) fa_X0_18 pa_0_2 dX0_remember_56 0 rfl rfl rfl (Nat.le_of_ble_eq_true rfl) rfl ?_
      exact ret 59 _ (((v_z_first + (1 : Int32)) - (v_z_first + (1 : Int32)) / (14 : Int32) * (14 : Int32)), ((13 : Int32) + (1 : Int32)), (va_up w_ring_el_H 1 e_heats_216), (va_up w_ring_el_F 1 e_figures_217), (va_up w_ring_el_Q 1 e_queue_218), (va_up w_ring_el_I 1 (g_i9 e_3_207 e_4_208 e_5_209 e_6_210 e_7_211 e_8_212 e_9_213 e_10_214 e_11_215))) dX0_remember_59 h
    | 2, _, h =>
      refine g_aload_n 45 X dX0_remember_45 1 rfl rfl ?_
      refine g_cVV 46 X (st := []) mv_X0_25 dX0_remember_46 (q6 2 0) 5 [.ref h2] (c_X5_copyFrom (q6 2 0) (q6 2 1) (q6 2 2) (q6 2 3) h2 h3 h4 h5 (w_ring_el_I 2 3) (w_ring_el_I 2 4) (w_ring_el_I 2 5) (w_ring_el_I 2 6) (w_ring_el_I 2 7) (w_ring_el_I 2 8) (w_ring_el_I 2 9) (w_ring_el_I 2 10) (w_ring_el_I 2 11) (w_ring_el_H 2) (w_ring_el_F 2) (w_ring_el_Q 2) v_p1_queued v_p1_last v_p1_before v_p1_ribbon v_p1_right v_p1_pale v_p1_dark v_p1_ghosts v_p1_printed v_p1_heats v_p1_figures v_p1_queue h) [14, 15, 16, 17, 2, 3, 4, 5] (fun u : Int32 × Int32 × Int32 × Int32 × Int32 × Int32 × Int32 × Int32 × Int32 × (Nat → Int32) × (Nat → Int32) × (Nat → Int32) => (W_X0_remember (g_env Γ) h0 h1 h2 h3 h4 h5 q6 ((v_z_first + (1 : Int32)) - (v_z_first + (1 : Int32)) / (14 : Int32) * (14 : Int32)) (13 : Int32) v_p1_queued v_p1_last v_p1_before v_p1_ribbon v_p1_right v_p1_pale v_p1_dark v_p1_ghosts v_p1_printed v_p1_heats v_p1_figures v_p1_queue (va_up w_ring_el_H 2 u.2.2.2.2.2.2.2.2.2.1) (va_up w_ring_el_F 2 u.2.2.2.2.2.2.2.2.2.2.1) (va_up w_ring_el_Q 2 u.2.2.2.2.2.2.2.2.2.2.2) (va_up w_ring_el_I 2 (g_i9 u.1 u.2.1 u.2.2.1 u.2.2.2.1 u.2.2.2.2.1 u.2.2.2.2.2.1 u.2.2.2.2.2.2.1 u.2.2.2.2.2.2.2.1 u.2.2.2.2.2.2.2.2.1)))) rfl ⟨(Nat.le_of_ble_eq_true rfl), (Nat.le_of_ble_eq_true rfl)⟩ ⟨rfl, rfl⟩ (Nat.le_of_ble_eq_true rfl) rfl rfl rfl (by decide) (fun _ => rfl) (fun _ => rfl) (fun u h => ?_)
      obtain ⟨e_3_219, e_4_220, e_5_221, e_6_222, e_7_223, e_8_224, e_9_225, e_10_226, e_11_227, e_heats_228, e_figures_229, e_queue_230⟩ := u
      dsimp only at h ⊢
      refine g_aload_n 49 X dX0_remember_49 0 rfl rfl ?_
      refine g_dup 50 X dX0_remember_50 rfl ?_
      refine g_get 51 X fa_X0_18 dX0_remember_51 0 rfl rfl ?_
      refine g_iconst 54 X (1 : Int32) dX0_remember_54 k_ic_1 ?_
      refine g_iadd 55 X dX0_remember_55 ?_
      refine g_put 56 X (W_X0_remember (g_env Γ) h0 h1 h2 h3 h4 h5 q6 ((v_z_first + (1 : Int32)) - (v_z_first + (1 : Int32)) / (14 : Int32) * (14 : Int32)) ((13 : Int32) + (1 : Int32)) v_p1_queued v_p1_last v_p1_before v_p1_ribbon v_p1_right v_p1_pale v_p1_dark v_p1_ghosts v_p1_printed v_p1_heats v_p1_figures v_p1_queue (va_up w_ring_el_H 2 e_heats_228) (va_up w_ring_el_F 2 e_figures_229) (va_up w_ring_el_Q 2 e_queue_230) (va_up w_ring_el_I 2 (g_i9 e_3_219 e_4_220 e_5_221 e_6_222 e_7_223 e_8_224 e_9_225 e_10_226 e_11_227))) fa_X0_18 pa_0_2 dX0_remember_56 0 rfl rfl rfl (Nat.le_of_ble_eq_true rfl) rfl ?_
      exact ret 59 _ (((v_z_first + (1 : Int32)) - (v_z_first + (1 : Int32)) / (14 : Int32) * (14 : Int32)), ((13 : Int32) + (1 : Int32)), (va_up w_ring_el_H 2 e_heats_228), (va_up w_ring_el_F 2 e_figures_229), (va_up w_ring_el_Q 2 e_queue_230), (va_up w_ring_el_I 2 (g_i9 e_3_219 e_4_220 e_5_221 e_6_222 e_7_223 e_8_224 e_9_225 e_10_226 e_11_227))) dX0_remember_59 h
    | 3, _, h =>
      refine g_aload_n 45 X dX0_remember_45 1 rfl rfl ?_
      refine g_cVV 46 X (st := []) mv_X0_25 dX0_remember_46 (q6 3 0) 5 [.ref h2] (c_X5_copyFrom (q6 3 0) (q6 3 1) (q6 3 2) (q6 3 3) h2 h3 h4 h5 (w_ring_el_I 3 3) (w_ring_el_I 3 4) (w_ring_el_I 3 5) (w_ring_el_I 3 6) (w_ring_el_I 3 7) (w_ring_el_I 3 8) (w_ring_el_I 3 9) (w_ring_el_I 3 10) (w_ring_el_I 3 11) (w_ring_el_H 3) (w_ring_el_F 3) (w_ring_el_Q 3) v_p1_queued v_p1_last v_p1_before v_p1_ribbon v_p1_right v_p1_pale v_p1_dark v_p1_ghosts v_p1_printed v_p1_heats v_p1_figures v_p1_queue h) [18, 19, 20, 21, 2, 3, 4, 5] (fun u : Int32 × Int32 × Int32 × Int32 × Int32 × Int32 × Int32 × Int32 × Int32 × (Nat → Int32) × (Nat → Int32) × (Nat → Int32) => (W_X0_remember (g_env Γ) h0 h1 h2 h3 h4 h5 q6 ((v_z_first + (1 : Int32)) - (v_z_first + (1 : Int32)) / (14 : Int32) * (14 : Int32)) (13 : Int32) v_p1_queued v_p1_last v_p1_before v_p1_ribbon v_p1_right v_p1_pale v_p1_dark v_p1_ghosts v_p1_printed v_p1_heats v_p1_figures v_p1_queue (va_up w_ring_el_H 3 u.2.2.2.2.2.2.2.2.2.1) (va_up w_ring_el_F 3 u.2.2.2.2.2.2.2.2.2.2.1) (va_up w_ring_el_Q 3 u.2.2.2.2.2.2.2.2.2.2.2) (va_up w_ring_el_I 3 (g_i9 u.1 u.2.1 u.2.2.1 u.2.2.2.1 u.2.2.2.2.1 u.2.2.2.2.2.1 u.2.2.2.2.2.2.1 u.2.2.2.2.2.2.2.1 u.2.2.2.2.2.2.2.2.1)))) rfl ⟨(Nat.le_of_ble_eq_true rfl), (Nat.le_of_ble_eq_true rfl)⟩ ⟨rfl, rfl⟩ (Nat.le_of_ble_eq_true rfl) rfl rfl rfl (by decide) (fun _ => rfl) (fun _ => rfl) (fun u h => ?_)
      obtain ⟨e_3_231, e_4_232, e_5_233, e_6_234, e_7_235, e_8_236, e_9_237, e_10_238, e_11_239, e_heats_240, e_figures_241, e_queue_242⟩ := u
      dsimp only at h ⊢
      refine g_aload_n 49 X dX0_remember_49 0 rfl rfl ?_
      refine g_dup 50 X dX0_remember_50 rfl ?_
      refine g_get 51 X fa_X0_18 dX0_remember_51 0 rfl rfl ?_
      refine g_iconst 54 X (1 : Int32) dX0_remember_54 k_ic_1 ?_
      refine g_iadd 55 X dX0_remember_55 ?_
      refine g_put 56 X (W_X0_remember (g_env Γ) h0 h1 h2 h3 h4 h5 q6 ((v_z_first + (1 : Int32)) - (v_z_first + (1 : Int32)) / (14 : Int32) * (14 : Int32)) ((13 : Int32) + (1 : Int32)) v_p1_queued v_p1_last v_p1_before v_p1_ribbon v_p1_right v_p1_pale v_p1_dark v_p1_ghosts v_p1_printed v_p1_heats v_p1_figures v_p1_queue (va_up w_ring_el_H 3 e_heats_240) (va_up w_ring_el_F 3 e_figures_241) (va_up w_ring_el_Q 3 e_queue_242) (va_up w_ring_el_I 3 (g_i9 e_3_231 e_4_232 e_5_233 e_6_234 e_7_235 e_8_236 e_9_237 e_10_238 e_11_239))) fa_X0_18 pa_0_2 dX0_remember_56 0 rfl rfl rfl (Nat.le_of_ble_eq_true rfl) rfl ?_
      exact ret 59 _ (((v_z_first + (1 : Int32)) - (v_z_first + (1 : Int32)) / (14 : Int32) * (14 : Int32)), ((13 : Int32) + (1 : Int32)), (va_up w_ring_el_H 3 e_heats_240), (va_up w_ring_el_F 3 e_figures_241), (va_up w_ring_el_Q 3 e_queue_242), (va_up w_ring_el_I 3 (g_i9 e_3_231 e_4_232 e_5_233 e_6_234 e_7_235 e_8_236 e_9_237 e_10_238 e_11_239))) dX0_remember_59 h
    | 4, _, h =>
      refine g_aload_n 45 X dX0_remember_45 1 rfl rfl ?_
      refine g_cVV 46 X (st := []) mv_X0_25 dX0_remember_46 (q6 4 0) 5 [.ref h2] (c_X5_copyFrom (q6 4 0) (q6 4 1) (q6 4 2) (q6 4 3) h2 h3 h4 h5 (w_ring_el_I 4 3) (w_ring_el_I 4 4) (w_ring_el_I 4 5) (w_ring_el_I 4 6) (w_ring_el_I 4 7) (w_ring_el_I 4 8) (w_ring_el_I 4 9) (w_ring_el_I 4 10) (w_ring_el_I 4 11) (w_ring_el_H 4) (w_ring_el_F 4) (w_ring_el_Q 4) v_p1_queued v_p1_last v_p1_before v_p1_ribbon v_p1_right v_p1_pale v_p1_dark v_p1_ghosts v_p1_printed v_p1_heats v_p1_figures v_p1_queue h) [22, 23, 24, 25, 2, 3, 4, 5] (fun u : Int32 × Int32 × Int32 × Int32 × Int32 × Int32 × Int32 × Int32 × Int32 × (Nat → Int32) × (Nat → Int32) × (Nat → Int32) => (W_X0_remember (g_env Γ) h0 h1 h2 h3 h4 h5 q6 ((v_z_first + (1 : Int32)) - (v_z_first + (1 : Int32)) / (14 : Int32) * (14 : Int32)) (13 : Int32) v_p1_queued v_p1_last v_p1_before v_p1_ribbon v_p1_right v_p1_pale v_p1_dark v_p1_ghosts v_p1_printed v_p1_heats v_p1_figures v_p1_queue (va_up w_ring_el_H 4 u.2.2.2.2.2.2.2.2.2.1) (va_up w_ring_el_F 4 u.2.2.2.2.2.2.2.2.2.2.1) (va_up w_ring_el_Q 4 u.2.2.2.2.2.2.2.2.2.2.2) (va_up w_ring_el_I 4 (g_i9 u.1 u.2.1 u.2.2.1 u.2.2.2.1 u.2.2.2.2.1 u.2.2.2.2.2.1 u.2.2.2.2.2.2.1 u.2.2.2.2.2.2.2.1 u.2.2.2.2.2.2.2.2.1)))) rfl ⟨(Nat.le_of_ble_eq_true rfl), (Nat.le_of_ble_eq_true rfl)⟩ ⟨rfl, rfl⟩ (Nat.le_of_ble_eq_true rfl) rfl rfl rfl (by decide) (fun _ => rfl) (fun _ => rfl) (fun u h => ?_)
      obtain ⟨e_3_243, e_4_244, e_5_245, e_6_246, e_7_247, e_8_248, e_9_249, e_10_250, e_11_251, e_heats_252, e_figures_253, e_queue_254⟩ := u
      dsimp only at h ⊢
      refine g_aload_n 49 X dX0_remember_49 0 rfl rfl ?_
      refine g_dup 50 X dX0_remember_50 rfl ?_
      refine g_get 51 X fa_X0_18 dX0_remember_51 0 rfl rfl ?_
      refine g_iconst 54 X (1 : Int32) dX0_remember_54 k_ic_1 ?_
      refine g_iadd 55 X dX0_remember_55 ?_
      refine g_put 56 X (W_X0_remember (g_env Γ) h0 h1 h2 h3 h4 h5 q6 ((v_z_first + (1 : Int32)) - (v_z_first + (1 : Int32)) / (14 : Int32) * (14 : Int32)) ((13 : Int32) + (1 : Int32)) v_p1_queued v_p1_last v_p1_before v_p1_ribbon v_p1_right v_p1_pale v_p1_dark v_p1_ghosts v_p1_printed v_p1_heats v_p1_figures v_p1_queue (va_up w_ring_el_H 4 e_heats_252) (va_up w_ring_el_F 4 e_figures_253) (va_up w_ring_el_Q 4 e_queue_254) (va_up w_ring_el_I 4 (g_i9 e_3_243 e_4_244 e_5_245 e_6_246 e_7_247 e_8_248 e_9_249 e_10_250 e_11_251))) fa_X0_18 pa_0_2 dX0_remember_56 0 rfl rfl rfl (Nat.le_of_ble_eq_true rfl) rfl ?_
      exact ret 59 _ (((v_z_first + (1 : Int32)) - (v_z_first + (1 : Int32)) / (14 : Int32) * (14 : Int32)), ((13 : Int32) + (1 : Int32)), (va_up w_ring_el_H 4 e_heats_252), (va_up w_ring_el_F 4 e_figures_253), (va_up w_ring_el_Q 4 e_queue_254), (va_up w_ring_el_I 4 (g_i9 e_3_243 e_4_244 e_5_245 e_6_246 e_7_247 e_8_248 e_9_249 e_10_250 e_11_251))) dX0_remember_59 h
    | 5, _, h =>
      refine g_aload_n 45 X dX0_remember_45 1 rfl rfl ?_
      refine g_cVV 46 X (st := []) mv_X0_25 dX0_remember_46 (q6 5 0) 5 [.ref h2] (c_X5_copyFrom (q6 5 0) (q6 5 1) (q6 5 2) (q6 5 3) h2 h3 h4 h5 (w_ring_el_I 5 3) (w_ring_el_I 5 4) (w_ring_el_I 5 5) (w_ring_el_I 5 6) (w_ring_el_I 5 7) (w_ring_el_I 5 8) (w_ring_el_I 5 9) (w_ring_el_I 5 10) (w_ring_el_I 5 11) (w_ring_el_H 5) (w_ring_el_F 5) (w_ring_el_Q 5) v_p1_queued v_p1_last v_p1_before v_p1_ribbon v_p1_right v_p1_pale v_p1_dark v_p1_ghosts v_p1_printed v_p1_heats v_p1_figures v_p1_queue h) [26, 27, 28, 29, 2, 3, 4, 5] (fun u : Int32 × Int32 × Int32 × Int32 × Int32 × Int32 × Int32 × Int32 × Int32 × (Nat → Int32) × (Nat → Int32) × (Nat → Int32) => (W_X0_remember (g_env Γ) h0 h1 h2 h3 h4 h5 q6 ((v_z_first + (1 : Int32)) - (v_z_first + (1 : Int32)) / (14 : Int32) * (14 : Int32)) (13 : Int32) v_p1_queued v_p1_last v_p1_before v_p1_ribbon v_p1_right v_p1_pale v_p1_dark v_p1_ghosts v_p1_printed v_p1_heats v_p1_figures v_p1_queue (va_up w_ring_el_H 5 u.2.2.2.2.2.2.2.2.2.1) (va_up w_ring_el_F 5 u.2.2.2.2.2.2.2.2.2.2.1) (va_up w_ring_el_Q 5 u.2.2.2.2.2.2.2.2.2.2.2) (va_up w_ring_el_I 5 (g_i9 u.1 u.2.1 u.2.2.1 u.2.2.2.1 u.2.2.2.2.1 u.2.2.2.2.2.1 u.2.2.2.2.2.2.1 u.2.2.2.2.2.2.2.1 u.2.2.2.2.2.2.2.2.1)))) rfl ⟨(Nat.le_of_ble_eq_true rfl), (Nat.le_of_ble_eq_true rfl)⟩ ⟨rfl, rfl⟩ (Nat.le_of_ble_eq_true rfl) rfl rfl rfl (by decide) (fun _ => rfl) (fun _ => rfl) (fun u h => ?_)
      obtain ⟨e_3_255, e_4_256, e_5_257, e_6_258, e_7_259, e_8_260, e_9_261, e_10_262, e_11_263, e_heats_264, e_figures_265, e_queue_266⟩ := u
      dsimp only at h ⊢
      refine g_aload_n 49 X dX0_remember_49 0 rfl rfl ?_
      refine g_dup 50 X dX0_remember_50 rfl ?_
      refine g_get 51 X fa_X0_18 dX0_remember_51 0 rfl rfl ?_
      refine g_iconst 54 X (1 : Int32) dX0_remember_54 k_ic_1 ?_
      refine g_iadd 55 X dX0_remember_55 ?_
      refine g_put 56 X (W_X0_remember (g_env Γ) h0 h1 h2 h3 h4 h5 q6 ((v_z_first + (1 : Int32)) - (v_z_first + (1 : Int32)) / (14 : Int32) * (14 : Int32)) ((13 : Int32) + (1 : Int32)) v_p1_queued v_p1_last v_p1_before v_p1_ribbon v_p1_right v_p1_pale v_p1_dark v_p1_ghosts v_p1_printed v_p1_heats v_p1_figures v_p1_queue (va_up w_ring_el_H 5 e_heats_264) (va_up w_ring_el_F 5 e_figures_265) (va_up w_ring_el_Q 5 e_queue_266) (va_up w_ring_el_I 5 (g_i9 e_3_255 e_4_256 e_5_257 e_6_258 e_7_259 e_8_260 e_9_261 e_10_262 e_11_263))) fa_X0_18 pa_0_2 dX0_remember_56 0 rfl rfl rfl (Nat.le_of_ble_eq_true rfl) rfl ?_
      exact ret 59 _ (((v_z_first + (1 : Int32)) - (v_z_first + (1 : Int32)) / (14 : Int32) * (14 : Int32)), ((13 : Int32) + (1 : Int32)), (va_up w_ring_el_H 5 e_heats_264), (va_up w_ring_el_F 5 e_figures_265), (va_up w_ring_el_Q 5 e_queue_266), (va_up w_ring_el_I 5 (g_i9 e_3_255 e_4_256 e_5_257 e_6_258 e_7_259 e_8_260 e_9_261 e_10_262 e_11_263))) dX0_remember_59 h
    | 6, _, h =>
      refine g_aload_n 45 X dX0_remember_45 1 rfl rfl ?_
      refine g_cVV 46 X (st := []) mv_X0_25 dX0_remember_46 (q6 6 0) 5 [.ref h2] (c_X5_copyFrom (q6 6 0) (q6 6 1) (q6 6 2) (q6 6 3) h2 h3 h4 h5 (w_ring_el_I 6 3) (w_ring_el_I 6 4) (w_ring_el_I 6 5) (w_ring_el_I 6 6) (w_ring_el_I 6 7) (w_ring_el_I 6 8) (w_ring_el_I 6 9) (w_ring_el_I 6 10) (w_ring_el_I 6 11) (w_ring_el_H 6) (w_ring_el_F 6) (w_ring_el_Q 6) v_p1_queued v_p1_last v_p1_before v_p1_ribbon v_p1_right v_p1_pale v_p1_dark v_p1_ghosts v_p1_printed v_p1_heats v_p1_figures v_p1_queue h) [30, 31, 32, 33, 2, 3, 4, 5] (fun u : Int32 × Int32 × Int32 × Int32 × Int32 × Int32 × Int32 × Int32 × Int32 × (Nat → Int32) × (Nat → Int32) × (Nat → Int32) => (W_X0_remember (g_env Γ) h0 h1 h2 h3 h4 h5 q6 ((v_z_first + (1 : Int32)) - (v_z_first + (1 : Int32)) / (14 : Int32) * (14 : Int32)) (13 : Int32) v_p1_queued v_p1_last v_p1_before v_p1_ribbon v_p1_right v_p1_pale v_p1_dark v_p1_ghosts v_p1_printed v_p1_heats v_p1_figures v_p1_queue (va_up w_ring_el_H 6 u.2.2.2.2.2.2.2.2.2.1) (va_up w_ring_el_F 6 u.2.2.2.2.2.2.2.2.2.2.1) (va_up w_ring_el_Q 6 u.2.2.2.2.2.2.2.2.2.2.2) (va_up w_ring_el_I 6 (g_i9 u.1 u.2.1 u.2.2.1 u.2.2.2.1 u.2.2.2.2.1 u.2.2.2.2.2.1 u.2.2.2.2.2.2.1 u.2.2.2.2.2.2.2.1 u.2.2.2.2.2.2.2.2.1)))) rfl ⟨(Nat.le_of_ble_eq_true rfl), (Nat.le_of_ble_eq_true rfl)⟩ ⟨rfl, rfl⟩ (Nat.le_of_ble_eq_true rfl) rfl rfl rfl (by decide) (fun _ => rfl) (fun _ => rfl) (fun u h => ?_)
      obtain ⟨e_3_267, e_4_268, e_5_269, e_6_270, e_7_271, e_8_272, e_9_273, e_10_274, e_11_275, e_heats_276, e_figures_277, e_queue_278⟩ := u
      dsimp only at h ⊢
      refine g_aload_n 49 X dX0_remember_49 0 rfl rfl ?_
      refine g_dup 50 X dX0_remember_50 rfl ?_
      refine g_get 51 X fa_X0_18 dX0_remember_51 0 rfl rfl ?_
      refine g_iconst 54 X (1 : Int32) dX0_remember_54 k_ic_1 ?_
      refine g_iadd 55 X dX0_remember_55 ?_
      refine g_put 56 X (W_X0_remember (g_env Γ) h0 h1 h2 h3 h4 h5 q6 ((v_z_first + (1 : Int32)) - (v_z_first + (1 : Int32)) / (14 : Int32) * (14 : Int32)) ((13 : Int32) + (1 : Int32)) v_p1_queued v_p1_last v_p1_before v_p1_ribbon v_p1_right v_p1_pale v_p1_dark v_p1_ghosts v_p1_printed v_p1_heats v_p1_figures v_p1_queue (va_up w_ring_el_H 6 e_heats_276) (va_up w_ring_el_F 6 e_figures_277) (va_up w_ring_el_Q 6 e_queue_278) (va_up w_ring_el_I 6 (g_i9 e_3_267 e_4_268 e_5_269 e_6_270 e_7_271 e_8_272 e_9_273 e_10_274 e_11_275))) fa_X0_18 pa_0_2 dX0_remember_56 0 rfl rfl rfl (Nat.le_of_ble_eq_true rfl) rfl ?_
      exact ret 59 _ (((v_z_first + (1 : Int32)) - (v_z_first + (1 : Int32)) / (14 : Int32) * (14 : Int32)), ((13 : Int32) + (1 : Int32)), (va_up w_ring_el_H 6 e_heats_276), (va_up w_ring_el_F 6 e_figures_277), (va_up w_ring_el_Q 6 e_queue_278), (va_up w_ring_el_I 6 (g_i9 e_3_267 e_4_268 e_5_269 e_6_270 e_7_271 e_8_272 e_9_273 e_10_274 e_11_275))) dX0_remember_59 h
    | 7, _, h =>
      refine g_aload_n 45 X dX0_remember_45 1 rfl rfl ?_
      refine g_cVV 46 X (st := []) mv_X0_25 dX0_remember_46 (q6 7 0) 5 [.ref h2] (c_X5_copyFrom (q6 7 0) (q6 7 1) (q6 7 2) (q6 7 3) h2 h3 h4 h5 (w_ring_el_I 7 3) (w_ring_el_I 7 4) (w_ring_el_I 7 5) (w_ring_el_I 7 6) (w_ring_el_I 7 7) (w_ring_el_I 7 8) (w_ring_el_I 7 9) (w_ring_el_I 7 10) (w_ring_el_I 7 11) (w_ring_el_H 7) (w_ring_el_F 7) (w_ring_el_Q 7) v_p1_queued v_p1_last v_p1_before v_p1_ribbon v_p1_right v_p1_pale v_p1_dark v_p1_ghosts v_p1_printed v_p1_heats v_p1_figures v_p1_queue h) [34, 35, 36, 37, 2, 3, 4, 5] (fun u : Int32 × Int32 × Int32 × Int32 × Int32 × Int32 × Int32 × Int32 × Int32 × (Nat → Int32) × (Nat → Int32) × (Nat → Int32) => (W_X0_remember (g_env Γ) h0 h1 h2 h3 h4 h5 q6 ((v_z_first + (1 : Int32)) - (v_z_first + (1 : Int32)) / (14 : Int32) * (14 : Int32)) (13 : Int32) v_p1_queued v_p1_last v_p1_before v_p1_ribbon v_p1_right v_p1_pale v_p1_dark v_p1_ghosts v_p1_printed v_p1_heats v_p1_figures v_p1_queue (va_up w_ring_el_H 7 u.2.2.2.2.2.2.2.2.2.1) (va_up w_ring_el_F 7 u.2.2.2.2.2.2.2.2.2.2.1) (va_up w_ring_el_Q 7 u.2.2.2.2.2.2.2.2.2.2.2) (va_up w_ring_el_I 7 (g_i9 u.1 u.2.1 u.2.2.1 u.2.2.2.1 u.2.2.2.2.1 u.2.2.2.2.2.1 u.2.2.2.2.2.2.1 u.2.2.2.2.2.2.2.1 u.2.2.2.2.2.2.2.2.1)))) rfl ⟨(Nat.le_of_ble_eq_true rfl), (Nat.le_of_ble_eq_true rfl)⟩ ⟨rfl, rfl⟩ (Nat.le_of_ble_eq_true rfl) rfl rfl rfl (by decide) (fun _ => rfl) (fun _ => rfl) (fun u h => ?_)
      obtain ⟨e_3_279, e_4_280, e_5_281, e_6_282, e_7_283, e_8_284, e_9_285, e_10_286, e_11_287, e_heats_288, e_figures_289, e_queue_290⟩ := u
      dsimp only at h ⊢
      refine g_aload_n 49 X dX0_remember_49 0 rfl rfl ?_
      refine g_dup 50 X dX0_remember_50 rfl ?_
      refine g_get 51 X fa_X0_18 dX0_remember_51 0 rfl rfl ?_
      refine g_iconst 54 X (1 : Int32) dX0_remember_54 k_ic_1 ?_
      refine g_iadd 55 X dX0_remember_55 ?_
      refine g_put 56 X (W_X0_remember (g_env Γ) h0 h1 h2 h3 h4 h5 q6 ((v_z_first + (1 : Int32)) - (v_z_first + (1 : Int32)) / (14 : Int32) * (14 : Int32)) ((13 : Int32) + (1 : Int32)) v_p1_queued v_p1_last v_p1_before v_p1_ribbon v_p1_right v_p1_pale v_p1_dark v_p1_ghosts v_p1_printed v_p1_heats v_p1_figures v_p1_queue (va_up w_ring_el_H 7 e_heats_288) (va_up w_ring_el_F 7 e_figures_289) (va_up w_ring_el_Q 7 e_queue_290) (va_up w_ring_el_I 7 (g_i9 e_3_279 e_4_280 e_5_281 e_6_282 e_7_283 e_8_284 e_9_285 e_10_286 e_11_287))) fa_X0_18 pa_0_2 dX0_remember_56 0 rfl rfl rfl (Nat.le_of_ble_eq_true rfl) rfl ?_
      exact ret 59 _ (((v_z_first + (1 : Int32)) - (v_z_first + (1 : Int32)) / (14 : Int32) * (14 : Int32)), ((13 : Int32) + (1 : Int32)), (va_up w_ring_el_H 7 e_heats_288), (va_up w_ring_el_F 7 e_figures_289), (va_up w_ring_el_Q 7 e_queue_290), (va_up w_ring_el_I 7 (g_i9 e_3_279 e_4_280 e_5_281 e_6_282 e_7_283 e_8_284 e_9_285 e_10_286 e_11_287))) dX0_remember_59 h
    | 8, _, h =>
      refine g_aload_n 45 X dX0_remember_45 1 rfl rfl ?_
      refine g_cVV 46 X (st := []) mv_X0_25 dX0_remember_46 (q6 8 0) 5 [.ref h2] (c_X5_copyFrom (q6 8 0) (q6 8 1) (q6 8 2) (q6 8 3) h2 h3 h4 h5 (w_ring_el_I 8 3) (w_ring_el_I 8 4) (w_ring_el_I 8 5) (w_ring_el_I 8 6) (w_ring_el_I 8 7) (w_ring_el_I 8 8) (w_ring_el_I 8 9) (w_ring_el_I 8 10) (w_ring_el_I 8 11) (w_ring_el_H 8) (w_ring_el_F 8) (w_ring_el_Q 8) v_p1_queued v_p1_last v_p1_before v_p1_ribbon v_p1_right v_p1_pale v_p1_dark v_p1_ghosts v_p1_printed v_p1_heats v_p1_figures v_p1_queue h) [38, 39, 40, 41, 2, 3, 4, 5] (fun u : Int32 × Int32 × Int32 × Int32 × Int32 × Int32 × Int32 × Int32 × Int32 × (Nat → Int32) × (Nat → Int32) × (Nat → Int32) => (W_X0_remember (g_env Γ) h0 h1 h2 h3 h4 h5 q6 ((v_z_first + (1 : Int32)) - (v_z_first + (1 : Int32)) / (14 : Int32) * (14 : Int32)) (13 : Int32) v_p1_queued v_p1_last v_p1_before v_p1_ribbon v_p1_right v_p1_pale v_p1_dark v_p1_ghosts v_p1_printed v_p1_heats v_p1_figures v_p1_queue (va_up w_ring_el_H 8 u.2.2.2.2.2.2.2.2.2.1) (va_up w_ring_el_F 8 u.2.2.2.2.2.2.2.2.2.2.1) (va_up w_ring_el_Q 8 u.2.2.2.2.2.2.2.2.2.2.2) (va_up w_ring_el_I 8 (g_i9 u.1 u.2.1 u.2.2.1 u.2.2.2.1 u.2.2.2.2.1 u.2.2.2.2.2.1 u.2.2.2.2.2.2.1 u.2.2.2.2.2.2.2.1 u.2.2.2.2.2.2.2.2.1)))) rfl ⟨(Nat.le_of_ble_eq_true rfl), (Nat.le_of_ble_eq_true rfl)⟩ ⟨rfl, rfl⟩ (Nat.le_of_ble_eq_true rfl) rfl rfl rfl (by decide) (fun _ => rfl) (fun _ => rfl) (fun u h => ?_)
      obtain ⟨e_3_291, e_4_292, e_5_293, e_6_294, e_7_295, e_8_296, e_9_297, e_10_298, e_11_299, e_heats_300, e_figures_301, e_queue_302⟩ := u
      dsimp only at h ⊢
      refine g_aload_n 49 X dX0_remember_49 0 rfl rfl ?_
      refine g_dup 50 X dX0_remember_50 rfl ?_
      refine g_get 51 X fa_X0_18 dX0_remember_51 0 rfl rfl ?_
      refine g_iconst 54 X (1 : Int32) dX0_remember_54 k_ic_1 ?_
      refine g_iadd 55 X dX0_remember_55 ?_
      refine g_put 56 X (W_X0_remember (g_env Γ) h0 h1 h2 h3 h4 h5 q6 ((v_z_first + (1 : Int32)) - (v_z_first + (1 : Int32)) / (14 : Int32) * (14 : Int32)) ((13 : Int32) + (1 : Int32)) v_p1_queued v_p1_last v_p1_before v_p1_ribbon v_p1_right v_p1_pale v_p1_dark v_p1_ghosts v_p1_printed v_p1_heats v_p1_figures v_p1_queue (va_up w_ring_el_H 8 e_heats_300) (va_up w_ring_el_F 8 e_figures_301) (va_up w_ring_el_Q 8 e_queue_302) (va_up w_ring_el_I 8 (g_i9 e_3_291 e_4_292 e_5_293 e_6_294 e_7_295 e_8_296 e_9_297 e_10_298 e_11_299))) fa_X0_18 pa_0_2 dX0_remember_56 0 rfl rfl rfl (Nat.le_of_ble_eq_true rfl) rfl ?_
      exact ret 59 _ (((v_z_first + (1 : Int32)) - (v_z_first + (1 : Int32)) / (14 : Int32) * (14 : Int32)), ((13 : Int32) + (1 : Int32)), (va_up w_ring_el_H 8 e_heats_300), (va_up w_ring_el_F 8 e_figures_301), (va_up w_ring_el_Q 8 e_queue_302), (va_up w_ring_el_I 8 (g_i9 e_3_291 e_4_292 e_5_293 e_6_294 e_7_295 e_8_296 e_9_297 e_10_298 e_11_299))) dX0_remember_59 h
    | 9, _, h =>
      refine g_aload_n 45 X dX0_remember_45 1 rfl rfl ?_
      refine g_cVV 46 X (st := []) mv_X0_25 dX0_remember_46 (q6 9 0) 5 [.ref h2] (c_X5_copyFrom (q6 9 0) (q6 9 1) (q6 9 2) (q6 9 3) h2 h3 h4 h5 (w_ring_el_I 9 3) (w_ring_el_I 9 4) (w_ring_el_I 9 5) (w_ring_el_I 9 6) (w_ring_el_I 9 7) (w_ring_el_I 9 8) (w_ring_el_I 9 9) (w_ring_el_I 9 10) (w_ring_el_I 9 11) (w_ring_el_H 9) (w_ring_el_F 9) (w_ring_el_Q 9) v_p1_queued v_p1_last v_p1_before v_p1_ribbon v_p1_right v_p1_pale v_p1_dark v_p1_ghosts v_p1_printed v_p1_heats v_p1_figures v_p1_queue h) [42, 43, 44, 45, 2, 3, 4, 5] (fun u : Int32 × Int32 × Int32 × Int32 × Int32 × Int32 × Int32 × Int32 × Int32 × (Nat → Int32) × (Nat → Int32) × (Nat → Int32) => (W_X0_remember (g_env Γ) h0 h1 h2 h3 h4 h5 q6 ((v_z_first + (1 : Int32)) - (v_z_first + (1 : Int32)) / (14 : Int32) * (14 : Int32)) (13 : Int32) v_p1_queued v_p1_last v_p1_before v_p1_ribbon v_p1_right v_p1_pale v_p1_dark v_p1_ghosts v_p1_printed v_p1_heats v_p1_figures v_p1_queue (va_up w_ring_el_H 9 u.2.2.2.2.2.2.2.2.2.1) (va_up w_ring_el_F 9 u.2.2.2.2.2.2.2.2.2.2.1) (va_up w_ring_el_Q 9 u.2.2.2.2.2.2.2.2.2.2.2) (va_up w_ring_el_I 9 (g_i9 u.1 u.2.1 u.2.2.1 u.2.2.2.1 u.2.2.2.2.1 u.2.2.2.2.2.1 u.2.2.2.2.2.2.1 u.2.2.2.2.2.2.2.1 u.2.2.2.2.2.2.2.2.1)))) rfl ⟨(Nat.le_of_ble_eq_true rfl), (Nat.le_of_ble_eq_true rfl)⟩ ⟨rfl, rfl⟩ (Nat.le_of_ble_eq_true rfl) rfl rfl rfl (by decide) (fun _ => rfl) (fun _ => rfl) (fun u h => ?_)
      obtain ⟨e_3_303, e_4_304, e_5_305, e_6_306, e_7_307, e_8_308, e_9_309, e_10_310, e_11_311, e_heats_312, e_figures_313, e_queue_314⟩ := u
      dsimp only at h ⊢
      refine g_aload_n 49 X dX0_remember_49 0 rfl rfl ?_
      refine g_dup 50 X dX0_remember_50 rfl ?_
      refine g_get 51 X fa_X0_18 dX0_remember_51 0 rfl rfl ?_
      refine g_iconst 54 X (1 : Int32) dX0_remember_54 k_ic_1 ?_
      refine g_iadd 55 X dX0_remember_55 ?_
      refine g_put 56 X (W_X0_remember (g_env Γ) h0 h1 h2 h3 h4 h5 q6 ((v_z_first + (1 : Int32)) - (v_z_first + (1 : Int32)) / (14 : Int32) * (14 : Int32)) ((13 : Int32) + (1 : Int32)) v_p1_queued v_p1_last v_p1_before v_p1_ribbon v_p1_right v_p1_pale v_p1_dark v_p1_ghosts v_p1_printed v_p1_heats v_p1_figures v_p1_queue (va_up w_ring_el_H 9 e_heats_312) (va_up w_ring_el_F 9 e_figures_313) (va_up w_ring_el_Q 9 e_queue_314) (va_up w_ring_el_I 9 (g_i9 e_3_303 e_4_304 e_5_305 e_6_306 e_7_307 e_8_308 e_9_309 e_10_310 e_11_311))) fa_X0_18 pa_0_2 dX0_remember_56 0 rfl rfl rfl (Nat.le_of_ble_eq_true rfl) rfl ?_
      exact ret 59 _ (((v_z_first + (1 : Int32)) - (v_z_first + (1 : Int32)) / (14 : Int32) * (14 : Int32)), ((13 : Int32) + (1 : Int32)), (va_up w_ring_el_H 9 e_heats_312), (va_up w_ring_el_F 9 e_figures_313), (va_up w_ring_el_Q 9 e_queue_314), (va_up w_ring_el_I 9 (g_i9 e_3_303 e_4_304 e_5_305 e_6_306 e_7_307 e_8_308 e_9_309 e_10_310 e_11_311))) dX0_remember_59 h
    | 10, _, h =>
      refine g_aload_n 45 X dX0_remember_45 1 rfl rfl ?_
      refine g_cVV 46 X (st := []) mv_X0_25 dX0_remember_46 (q6 10 0) 5 [.ref h2] (c_X5_copyFrom (q6 10 0) (q6 10 1) (q6 10 2) (q6 10 3) h2 h3 h4 h5 (w_ring_el_I 10 3) (w_ring_el_I 10 4) (w_ring_el_I 10 5) (w_ring_el_I 10 6) (w_ring_el_I 10 7) (w_ring_el_I 10 8) (w_ring_el_I 10 9) (w_ring_el_I 10 10) (w_ring_el_I 10 11) (w_ring_el_H 10) (w_ring_el_F 10) (w_ring_el_Q 10) v_p1_queued v_p1_last v_p1_before v_p1_ribbon v_p1_right v_p1_pale v_p1_dark v_p1_ghosts v_p1_printed v_p1_heats v_p1_figures v_p1_queue h) [46, 47, 48, 49, 2, 3, 4, 5] (fun u : Int32 × Int32 × Int32 × Int32 × Int32 × Int32 × Int32 × Int32 × Int32 × (Nat → Int32) × (Nat → Int32) × (Nat → Int32) => (W_X0_remember (g_env Γ) h0 h1 h2 h3 h4 h5 q6 ((v_z_first + (1 : Int32)) - (v_z_first + (1 : Int32)) / (14 : Int32) * (14 : Int32)) (13 : Int32) v_p1_queued v_p1_last v_p1_before v_p1_ribbon v_p1_right v_p1_pale v_p1_dark v_p1_ghosts v_p1_printed v_p1_heats v_p1_figures v_p1_queue (va_up w_ring_el_H 10 u.2.2.2.2.2.2.2.2.2.1) (va_up w_ring_el_F 10 u.2.2.2.2.2.2.2.2.2.2.1) (va_up w_ring_el_Q 10 u.2.2.2.2.2.2.2.2.2.2.2) (va_up w_ring_el_I 10 (g_i9 u.1 u.2.1 u.2.2.1 u.2.2.2.1 u.2.2.2.2.1 u.2.2.2.2.2.1 u.2.2.2.2.2.2.1 u.2.2.2.2.2.2.2.1 u.2.2.2.2.2.2.2.2.1)))) rfl ⟨(Nat.le_of_ble_eq_true rfl), (Nat.le_of_ble_eq_true rfl)⟩ ⟨rfl, rfl⟩ (Nat.le_of_ble_eq_true rfl) rfl rfl rfl (by decide) (fun _ => rfl) (fun _ => rfl) (fun u h => ?_)
      obtain ⟨e_3_315, e_4_316, e_5_317, e_6_318, e_7_319, e_8_320, e_9_321, e_10_322, e_11_323, e_heats_324, e_figures_325, e_queue_326⟩ := u
      dsimp only at h ⊢
      refine g_aload_n 49 X dX0_remember_49 0 rfl rfl ?_
      refine g_dup 50 X dX0_remember_50 rfl ?_
      refine g_get 51 X fa_X0_18 dX0_remember_51 0 rfl rfl ?_
      refine g_iconst 54 X (1 : Int32) dX0_remember_54 k_ic_1 ?_
      refine g_iadd 55 X dX0_remember_55 ?_
      refine g_put 56 X (W_X0_remember (g_env Γ) h0 h1 h2 h3 h4 h5 q6 ((v_z_first + (1 : Int32)) - (v_z_first + (1 : Int32)) / (14 : Int32) * (14 : Int32)) ((13 : Int32) + (1 : Int32)) v_p1_queued v_p1_last v_p1_before v_p1_ribbon v_p1_right v_p1_pale v_p1_dark v_p1_ghosts v_p1_printed v_p1_heats v_p1_figures v_p1_queue (va_up w_ring_el_H 10 e_heats_324) (va_up w_ring_el_F 10 e_figures_325) (va_up w_ring_el_Q 10 e_queue_326) (va_up w_ring_el_I 10 (g_i9 e_3_315 e_4_316 e_5_317 e_6_318 e_7_319 e_8_320 e_9_321 e_10_322 e_11_323))) fa_X0_18 pa_0_2 dX0_remember_56 0 rfl rfl rfl (Nat.le_of_ble_eq_true rfl) rfl ?_
      exact ret 59 _ (((v_z_first + (1 : Int32)) - (v_z_first + (1 : Int32)) / (14 : Int32) * (14 : Int32)), ((13 : Int32) + (1 : Int32)), (va_up w_ring_el_H 10 e_heats_324), (va_up w_ring_el_F 10 e_figures_325), (va_up w_ring_el_Q 10 e_queue_326), (va_up w_ring_el_I 10 (g_i9 e_3_315 e_4_316 e_5_317 e_6_318 e_7_319 e_8_320 e_9_321 e_10_322 e_11_323))) dX0_remember_59 h
    | 11, _, h =>
      refine g_aload_n 45 X dX0_remember_45 1 rfl rfl ?_
      refine g_cVV 46 X (st := []) mv_X0_25 dX0_remember_46 (q6 11 0) 5 [.ref h2] (c_X5_copyFrom (q6 11 0) (q6 11 1) (q6 11 2) (q6 11 3) h2 h3 h4 h5 (w_ring_el_I 11 3) (w_ring_el_I 11 4) (w_ring_el_I 11 5) (w_ring_el_I 11 6) (w_ring_el_I 11 7) (w_ring_el_I 11 8) (w_ring_el_I 11 9) (w_ring_el_I 11 10) (w_ring_el_I 11 11) (w_ring_el_H 11) (w_ring_el_F 11) (w_ring_el_Q 11) v_p1_queued v_p1_last v_p1_before v_p1_ribbon v_p1_right v_p1_pale v_p1_dark v_p1_ghosts v_p1_printed v_p1_heats v_p1_figures v_p1_queue h) [50, 51, 52, 53, 2, 3, 4, 5] (fun u : Int32 × Int32 × Int32 × Int32 × Int32 × Int32 × Int32 × Int32 × Int32 × (Nat → Int32) × (Nat → Int32) × (Nat → Int32) => (W_X0_remember (g_env Γ) h0 h1 h2 h3 h4 h5 q6 ((v_z_first + (1 : Int32)) - (v_z_first + (1 : Int32)) / (14 : Int32) * (14 : Int32)) (13 : Int32) v_p1_queued v_p1_last v_p1_before v_p1_ribbon v_p1_right v_p1_pale v_p1_dark v_p1_ghosts v_p1_printed v_p1_heats v_p1_figures v_p1_queue (va_up w_ring_el_H 11 u.2.2.2.2.2.2.2.2.2.1) (va_up w_ring_el_F 11 u.2.2.2.2.2.2.2.2.2.2.1) (va_up w_ring_el_Q 11 u.2.2.2.2.2.2.2.2.2.2.2) (va_up w_ring_el_I 11 (g_i9 u.1 u.2.1 u.2.2.1 u.2.2.2.1 u.2.2.2.2.1 u.2.2.2.2.2.1 u.2.2.2.2.2.2.1 u.2.2.2.2.2.2.2.1 u.2.2.2.2.2.2.2.2.1)))) rfl ⟨(Nat.le_of_ble_eq_true rfl), (Nat.le_of_ble_eq_true rfl)⟩ ⟨rfl, rfl⟩ (Nat.le_of_ble_eq_true rfl) rfl rfl rfl (by decide) (fun _ => rfl) (fun _ => rfl) (fun u h => ?_)
      obtain ⟨e_3_327, e_4_328, e_5_329, e_6_330, e_7_331, e_8_332, e_9_333, e_10_334, e_11_335, e_heats_336, e_figures_337, e_queue_338⟩ := u
      dsimp only at h ⊢
      refine g_aload_n 49 X dX0_remember_49 0 rfl rfl ?_
      refine g_dup 50 X dX0_remember_50 rfl ?_
      refine g_get 51 X fa_X0_18 dX0_remember_51 0 rfl rfl ?_
      refine g_iconst 54 X (1 : Int32) dX0_remember_54 k_ic_1 ?_
      refine g_iadd 55 X dX0_remember_55 ?_
      refine g_put 56 X (W_X0_remember (g_env Γ) h0 h1 h2 h3 h4 h5 q6 ((v_z_first + (1 : Int32)) - (v_z_first + (1 : Int32)) / (14 : Int32) * (14 : Int32)) ((13 : Int32) + (1 : Int32)) v_p1_queued v_p1_last v_p1_before v_p1_ribbon v_p1_right v_p1_pale v_p1_dark v_p1_ghosts v_p1_printed v_p1_heats v_p1_figures v_p1_queue (va_up w_ring_el_H 11 e_heats_336) (va_up w_ring_el_F 11 e_figures_337) (va_up w_ring_el_Q 11 e_queue_338) (va_up w_ring_el_I 11 (g_i9 e_3_327 e_4_328 e_5_329 e_6_330 e_7_331 e_8_332 e_9_333 e_10_334 e_11_335))) fa_X0_18 pa_0_2 dX0_remember_56 0 rfl rfl rfl (Nat.le_of_ble_eq_true rfl) rfl ?_
      exact ret 59 _ (((v_z_first + (1 : Int32)) - (v_z_first + (1 : Int32)) / (14 : Int32) * (14 : Int32)), ((13 : Int32) + (1 : Int32)), (va_up w_ring_el_H 11 e_heats_336), (va_up w_ring_el_F 11 e_figures_337), (va_up w_ring_el_Q 11 e_queue_338), (va_up w_ring_el_I 11 (g_i9 e_3_327 e_4_328 e_5_329 e_6_330 e_7_331 e_8_332 e_9_333 e_10_334 e_11_335))) dX0_remember_59 h
    | 12, _, h =>
      refine g_aload_n 45 X dX0_remember_45 1 rfl rfl ?_
      refine g_cVV 46 X (st := []) mv_X0_25 dX0_remember_46 (q6 12 0) 5 [.ref h2] (c_X5_copyFrom (q6 12 0) (q6 12 1) (q6 12 2) (q6 12 3) h2 h3 h4 h5 (w_ring_el_I 12 3) (w_ring_el_I 12 4) (w_ring_el_I 12 5) (w_ring_el_I 12 6) (w_ring_el_I 12 7) (w_ring_el_I 12 8) (w_ring_el_I 12 9) (w_ring_el_I 12 10) (w_ring_el_I 12 11) (w_ring_el_H 12) (w_ring_el_F 12) (w_ring_el_Q 12) v_p1_queued v_p1_last v_p1_before v_p1_ribbon v_p1_right v_p1_pale v_p1_dark v_p1_ghosts v_p1_printed v_p1_heats v_p1_figures v_p1_queue h) [54, 55, 56, 57, 2, 3, 4, 5] (fun u : Int32 × Int32 × Int32 × Int32 × Int32 × Int32 × Int32 × Int32 × Int32 × (Nat → Int32) × (Nat → Int32) × (Nat → Int32) => (W_X0_remember (g_env Γ) h0 h1 h2 h3 h4 h5 q6 ((v_z_first + (1 : Int32)) - (v_z_first + (1 : Int32)) / (14 : Int32) * (14 : Int32)) (13 : Int32) v_p1_queued v_p1_last v_p1_before v_p1_ribbon v_p1_right v_p1_pale v_p1_dark v_p1_ghosts v_p1_printed v_p1_heats v_p1_figures v_p1_queue (va_up w_ring_el_H 12 u.2.2.2.2.2.2.2.2.2.1) (va_up w_ring_el_F 12 u.2.2.2.2.2.2.2.2.2.2.1) (va_up w_ring_el_Q 12 u.2.2.2.2.2.2.2.2.2.2.2) (va_up w_ring_el_I 12 (g_i9 u.1 u.2.1 u.2.2.1 u.2.2.2.1 u.2.2.2.2.1 u.2.2.2.2.2.1 u.2.2.2.2.2.2.1 u.2.2.2.2.2.2.2.1 u.2.2.2.2.2.2.2.2.1)))) rfl ⟨(Nat.le_of_ble_eq_true rfl), (Nat.le_of_ble_eq_true rfl)⟩ ⟨rfl, rfl⟩ (Nat.le_of_ble_eq_true rfl) rfl rfl rfl (by decide) (fun _ => rfl) (fun _ => rfl) (fun u h => ?_)
      obtain ⟨e_3_339, e_4_340, e_5_341, e_6_342, e_7_343, e_8_344, e_9_345, e_10_346, e_11_347, e_heats_348, e_figures_349, e_queue_350⟩ := u
      dsimp only at h ⊢
      refine g_aload_n 49 X dX0_remember_49 0 rfl rfl ?_
      refine g_dup 50 X dX0_remember_50 rfl ?_
      refine g_get 51 X fa_X0_18 dX0_remember_51 0 rfl rfl ?_
      refine g_iconst 54 X (1 : Int32) dX0_remember_54 k_ic_1 ?_
      refine g_iadd 55 X dX0_remember_55 ?_
      refine g_put 56 X (W_X0_remember (g_env Γ) h0 h1 h2 h3 h4 h5 q6 ((v_z_first + (1 : Int32)) - (v_z_first + (1 : Int32)) / (14 : Int32) * (14 : Int32)) ((13 : Int32) + (1 : Int32)) v_p1_queued v_p1_last v_p1_before v_p1_ribbon v_p1_right v_p1_pale v_p1_dark v_p1_ghosts v_p1_printed v_p1_heats v_p1_figures v_p1_queue (va_up w_ring_el_H 12 e_heats_348) (va_up w_ring_el_F 12 e_figures_349) (va_up w_ring_el_Q 12 e_queue_350) (va_up w_ring_el_I 12 (g_i9 e_3_339 e_4_340 e_5_341 e_6_342 e_7_343 e_8_344 e_9_345 e_10_346 e_11_347))) fa_X0_18 pa_0_2 dX0_remember_56 0 rfl rfl rfl (Nat.le_of_ble_eq_true rfl) rfl ?_
      exact ret 59 _ (((v_z_first + (1 : Int32)) - (v_z_first + (1 : Int32)) / (14 : Int32) * (14 : Int32)), ((13 : Int32) + (1 : Int32)), (va_up w_ring_el_H 12 e_heats_348), (va_up w_ring_el_F 12 e_figures_349), (va_up w_ring_el_Q 12 e_queue_350), (va_up w_ring_el_I 12 (g_i9 e_3_339 e_4_340 e_5_341 e_6_342 e_7_343 e_8_344 e_9_345 e_10_346 e_11_347))) dX0_remember_59 h
    | 13, _, h =>
      refine g_aload_n 45 X dX0_remember_45 1 rfl rfl ?_
      refine g_cVV 46 X (st := []) mv_X0_25 dX0_remember_46 (q6 13 0) 5 [.ref h2] (c_X5_copyFrom (q6 13 0) (q6 13 1) (q6 13 2) (q6 13 3) h2 h3 h4 h5 (w_ring_el_I 13 3) (w_ring_el_I 13 4) (w_ring_el_I 13 5) (w_ring_el_I 13 6) (w_ring_el_I 13 7) (w_ring_el_I 13 8) (w_ring_el_I 13 9) (w_ring_el_I 13 10) (w_ring_el_I 13 11) (w_ring_el_H 13) (w_ring_el_F 13) (w_ring_el_Q 13) v_p1_queued v_p1_last v_p1_before v_p1_ribbon v_p1_right v_p1_pale v_p1_dark v_p1_ghosts v_p1_printed v_p1_heats v_p1_figures v_p1_queue h) [58, 59, 60, 61, 2, 3, 4, 5] (fun u : Int32 × Int32 × Int32 × Int32 × Int32 × Int32 × Int32 × Int32 × Int32 × (Nat → Int32) × (Nat → Int32) × (Nat → Int32) => (W_X0_remember (g_env Γ) h0 h1 h2 h3 h4 h5 q6 ((v_z_first + (1 : Int32)) - (v_z_first + (1 : Int32)) / (14 : Int32) * (14 : Int32)) (13 : Int32) v_p1_queued v_p1_last v_p1_before v_p1_ribbon v_p1_right v_p1_pale v_p1_dark v_p1_ghosts v_p1_printed v_p1_heats v_p1_figures v_p1_queue (va_up w_ring_el_H 13 u.2.2.2.2.2.2.2.2.2.1) (va_up w_ring_el_F 13 u.2.2.2.2.2.2.2.2.2.2.1) (va_up w_ring_el_Q 13 u.2.2.2.2.2.2.2.2.2.2.2) (va_up w_ring_el_I 13 (g_i9 u.1 u.2.1 u.2.2.1 u.2.2.2.1 u.2.2.2.2.1 u.2.2.2.2.2.1 u.2.2.2.2.2.2.1 u.2.2.2.2.2.2.2.1 u.2.2.2.2.2.2.2.2.1)))) rfl ⟨(Nat.le_of_ble_eq_true rfl), (Nat.le_of_ble_eq_true rfl)⟩ ⟨rfl, rfl⟩ (Nat.le_of_ble_eq_true rfl) rfl rfl rfl (by decide) (fun _ => rfl) (fun _ => rfl) (fun u h => ?_)
      obtain ⟨e_3_351, e_4_352, e_5_353, e_6_354, e_7_355, e_8_356, e_9_357, e_10_358, e_11_359, e_heats_360, e_figures_361, e_queue_362⟩ := u
      dsimp only at h ⊢
      refine g_aload_n 49 X dX0_remember_49 0 rfl rfl ?_
      refine g_dup 50 X dX0_remember_50 rfl ?_
      refine g_get 51 X fa_X0_18 dX0_remember_51 0 rfl rfl ?_
      refine g_iconst 54 X (1 : Int32) dX0_remember_54 k_ic_1 ?_
      refine g_iadd 55 X dX0_remember_55 ?_
      refine g_put 56 X (W_X0_remember (g_env Γ) h0 h1 h2 h3 h4 h5 q6 ((v_z_first + (1 : Int32)) - (v_z_first + (1 : Int32)) / (14 : Int32) * (14 : Int32)) ((13 : Int32) + (1 : Int32)) v_p1_queued v_p1_last v_p1_before v_p1_ribbon v_p1_right v_p1_pale v_p1_dark v_p1_ghosts v_p1_printed v_p1_heats v_p1_figures v_p1_queue (va_up w_ring_el_H 13 e_heats_360) (va_up w_ring_el_F 13 e_figures_361) (va_up w_ring_el_Q 13 e_queue_362) (va_up w_ring_el_I 13 (g_i9 e_3_351 e_4_352 e_5_353 e_6_354 e_7_355 e_8_356 e_9_357 e_10_358 e_11_359))) fa_X0_18 pa_0_2 dX0_remember_56 0 rfl rfl rfl (Nat.le_of_ble_eq_true rfl) rfl ?_
      exact ret 59 _ (((v_z_first + (1 : Int32)) - (v_z_first + (1 : Int32)) / (14 : Int32) * (14 : Int32)), ((13 : Int32) + (1 : Int32)), (va_up w_ring_el_H 13 e_heats_360), (va_up w_ring_el_F 13 e_figures_361), (va_up w_ring_el_Q 13 e_queue_362), (va_up w_ring_el_I 13 (g_i9 e_3_351 e_4_352 e_5_353 e_6_354 e_7_355 e_8_356 e_9_357 e_10_358 e_11_359))) dX0_remember_59 h
    | k + 14, hk, _ => exact absurd hk (by omega)

def V_X0_takeBack (E : g_E) (h0 : Nat) (h1 : Nat) (h2 : Nat) (h3 : Nat) (h4 : Nat) (h5 : Nat) (q6 : Nat → Nat → Nat) (v_z_first : Int32) (v_z_count : Int32) (v_p1_queued : Int32) (v_p1_last : Int32) (v_p1_before : Int32) (v_p1_ribbon : Int32) (v_p1_right : Int32) (v_p1_pale : Int32) (v_p1_dark : Int32) (v_p1_ghosts : Int32) (v_p1_printed : Int32) (v_p1_heats : Nat → Int32) (v_p1_figures : Nat → Int32) (v_p1_queue : Nat → Int32) (w_ring_el_H : Nat → Nat → Int32) (w_ring_el_F : Nat → Nat → Int32) (w_ring_el_Q : Nat → Nat → Int32) (w_ring_el_I : Nat → Nat → Int32) : va_W := [(h0, .inr (0, [.ref h1, .int v_z_first, .int v_z_count])), (h1, .inl (E.2.2.2.1, 14, .inr (.inr (.inr (.inr (fun k => some (q6 k 0))))))), (h2, .inr (5, [.ref h3, .ref h4, .ref h5, .int v_p1_queued, .int v_p1_last, .int v_p1_before, .int v_p1_ribbon, .int v_p1_right, .int v_p1_pale, .int v_p1_dark, .int v_p1_ghosts, .int v_p1_printed])), (h3, .inl (E.2.1, 8, .inl v_p1_heats)), (h4, .inl (E.2.1, 5, .inl v_p1_figures)), (h5, .inl (E.2.1, 8, .inl v_p1_queue))]
def W_X0_takeBack (E : g_E) (h0 : Nat) (h1 : Nat) (h2 : Nat) (h3 : Nat) (h4 : Nat) (h5 : Nat) (q6 : Nat → Nat → Nat) (v_z_first : Int32) (v_z_count : Int32) (v_p1_queued : Int32) (v_p1_last : Int32) (v_p1_before : Int32) (v_p1_ribbon : Int32) (v_p1_right : Int32) (v_p1_pale : Int32) (v_p1_dark : Int32) (v_p1_ghosts : Int32) (v_p1_printed : Int32) (v_p1_heats : Nat → Int32) (v_p1_figures : Nat → Int32) (v_p1_queue : Nat → Int32) (w_ring_el_H : Nat → Nat → Int32) (w_ring_el_F : Nat → Nat → Int32) (w_ring_el_Q : Nat → Nat → Int32) (w_ring_el_I : Nat → Nat → Int32) : va_W := V_X0_takeBack E h0 h1 h2 h3 h4 h5 q6 v_z_first v_z_count v_p1_queued v_p1_last v_p1_before v_p1_ribbon v_p1_right v_p1_pale v_p1_dark v_p1_ghosts v_p1_printed v_p1_heats v_p1_figures v_p1_queue w_ring_el_H w_ring_el_F w_ring_el_Q w_ring_el_I ++ g_pool E q6 w_ring_el_H w_ring_el_F w_ring_el_Q w_ring_el_I 14
def P_X0_takeBack (v_z_first : Int32) (v_z_count : Int32) (v_p1_queued : Int32) (v_p1_last : Int32) (v_p1_before : Int32) (v_p1_ribbon : Int32) (v_p1_right : Int32) (v_p1_pale : Int32) (v_p1_dark : Int32) (v_p1_ghosts : Int32) (v_p1_printed : Int32) (v_p1_heats : Nat → Int32) (v_p1_figures : Nat → Int32) (v_p1_queue : Nat → Int32) (w_ring_el_H : Nat → Nat → Int32) (w_ring_el_F : Nat → Nat → Int32) (w_ring_el_Q : Nat → Nat → Int32) (w_ring_el_I : Nat → Nat → Int32) (K : Int32 → Int32 → Int32 → Int32 → Int32 → Int32 → Int32 → Int32 → Int32 → Int32 → Int32 → (Nat → Int32) → (Nat → Int32) → (Nat → Int32) → Prop) : Prop := (((0 : Int32) < v_z_count → (vp_in ((v_z_first + (v_z_count - (1 : Int32))) - (v_z_first + (v_z_count - (1 : Int32))) / (14 : Int32) * (14 : Int32)) 14 ∧ (∀ k : Nat, k < 14 → ((v_z_first + (v_z_count - (1 : Int32))) - (v_z_first + (v_z_count - (1 : Int32))) / (14 : Int32) * (14 : Int32)) = nI k → (P_X5_copyFrom v_p1_queued v_p1_last v_p1_before v_p1_ribbon v_p1_right v_p1_pale v_p1_dark v_p1_ghosts v_p1_printed v_p1_heats v_p1_figures v_p1_queue (w_ring_el_I k 3) (w_ring_el_I k 4) (w_ring_el_I k 5) (w_ring_el_I k 6) (w_ring_el_I k 7) (w_ring_el_I k 8) (w_ring_el_I k 9) (w_ring_el_I k 10) (w_ring_el_I k 11) (w_ring_el_H k) (w_ring_el_F k) (w_ring_el_Q k) (fun v_p1_queued_2 v_p1_last_3 v_p1_before_4 v_p1_ribbon_5 v_p1_right_6 v_p1_pale_7 v_p1_dark_8 v_p1_ghosts_9 v_p1_printed_10 v_p1_heats_11 v_p1_figures_12 v_p1_queue_13 => K (1 : Int32) (v_z_count - (1 : Int32)) v_p1_queued_2 v_p1_last_3 v_p1_before_4 v_p1_ribbon_5 v_p1_right_6 v_p1_pale_7 v_p1_dark_8 v_p1_ghosts_9 v_p1_printed_10 v_p1_heats_11 v_p1_figures_12 v_p1_queue_13))))) ∧ (¬ (0 : Int32) < v_z_count → K (0 : Int32) v_z_count v_p1_queued v_p1_last v_p1_before v_p1_ribbon v_p1_right v_p1_pale v_p1_dark v_p1_ghosts v_p1_printed v_p1_heats v_p1_figures v_p1_queue))
set_option maxHeartbeats 4000000 in
set_option maxRecDepth 100000 in
theorem c_X0_takeBack {l : Launch} {E : g_E} (h0 : Nat) (h1 : Nat) (h2 : Nat) (h3 : Nat) (h4 : Nat) (h5 : Nat) (q6 : Nat → Nat → Nat) (v_z_first : Int32) (v_z_count : Int32) (v_p1_queued : Int32) (v_p1_last : Int32) (v_p1_before : Int32) (v_p1_ribbon : Int32) (v_p1_right : Int32) (v_p1_pale : Int32) (v_p1_dark : Int32) (v_p1_ghosts : Int32) (v_p1_printed : Int32) (v_p1_heats : Nat → Int32) (v_p1_figures : Nat → Int32) (v_p1_queue : Nat → Int32) (w_ring_el_H : Nat → Nat → Int32) (w_ring_el_F : Nat → Nat → Int32) (w_ring_el_Q : Nat → Nat → Int32) (w_ring_el_I : Nat → Nat → Int32) {K : Int32 → Int32 → Int32 → Int32 → Int32 → Int32 → Int32 → Int32 → Int32 → Int32 → Int32 → (Nat → Int32) → (Nat → Int32) → (Nat → Int32) → Prop} (h : P_X0_takeBack v_z_first v_z_count v_p1_queued v_p1_last v_p1_before v_p1_ribbon v_p1_right v_p1_pale v_p1_dark v_p1_ghosts v_p1_printed v_p1_heats v_p1_figures v_p1_queue w_ring_el_H w_ring_el_F w_ring_el_Q w_ring_el_I K) : g_CI l E yX0_takeBack cX0_takeBack 2 .boolean (g_Rm 2 61) [.ref h0, .ref h2] (W_X0_takeBack E h0 h1 h2 h3 h4 h5 q6 v_z_first v_z_count v_p1_queued v_p1_last v_p1_before v_p1_ribbon v_p1_right v_p1_pale v_p1_dark v_p1_ghosts v_p1_printed v_p1_heats v_p1_figures v_p1_queue w_ring_el_H w_ring_el_F w_ring_el_Q w_ring_el_I) (fun r (u : Int32 × Int32 × Int32 × Int32 × Int32 × Int32 × Int32 × Int32 × Int32 × Int32 × (Nat → Int32) × (Nat → Int32) × (Nat → Int32)) => K r u.1 u.2.1 u.2.2.1 u.2.2.2.1 u.2.2.2.2.1 u.2.2.2.2.2.1 u.2.2.2.2.2.2.1 u.2.2.2.2.2.2.2.1 u.2.2.2.2.2.2.2.2.1 u.2.2.2.2.2.2.2.2.2.1 u.2.2.2.2.2.2.2.2.2.2.1 u.2.2.2.2.2.2.2.2.2.2.2.1 u.2.2.2.2.2.2.2.2.2.2.2.2) (fun (u : Int32 × Int32 × Int32 × Int32 × Int32 × Int32 × Int32 × Int32 × Int32 × Int32 × (Nat → Int32) × (Nat → Int32) × (Nat → Int32)) => (W_X0_takeBack E h0 h1 h2 h3 h4 h5 q6 v_z_first u.1 u.2.1 u.2.2.1 u.2.2.2.1 u.2.2.2.2.1 u.2.2.2.2.2.1 u.2.2.2.2.2.2.1 u.2.2.2.2.2.2.2.1 u.2.2.2.2.2.2.2.2.1 u.2.2.2.2.2.2.2.2.2.1 u.2.2.2.2.2.2.2.2.2.2.1 u.2.2.2.2.2.2.2.2.2.2.2.1 u.2.2.2.2.2.2.2.2.2.2.2.2 w_ring_el_H w_ring_el_F w_ring_el_Q w_ring_el_I)) := by
  refine g_entI RX0 (by decide) rfl (Nat.le_of_ble_eq_true rfl) ?_
  intro Γ X hE hl ret
  subst hE
  subst hl
  unfold P_X0_takeBack at h
  show g_G Γ (g_Rm 2 61) 2 0 [(0, .ref h0), (1, .ref h2)] [] (W_X0_takeBack (g_env Γ) h0 h1 h2 h3 h4 h5 q6 v_z_first v_z_count v_p1_queued v_p1_last v_p1_before v_p1_ribbon v_p1_right v_p1_pale v_p1_dark v_p1_ghosts v_p1_printed v_p1_heats v_p1_figures v_p1_queue w_ring_el_H w_ring_el_F w_ring_el_Q w_ring_el_I)
  refine g_aload_n 0 X dX0_takeBack_0 0 rfl rfl ?_
  refine g_get 1 X fa_X0_18 dX0_takeBack_1 0 rfl rfl ?_
  refine g_if_gt 4 X 9 dX0_takeBack_4 (by decide) (fun c => ?_) (fun c => ?_)
  · replace h := h.1 c
    refine g_aload_n 9 X dX0_takeBack_9 0 rfl rfl ?_
    refine g_dup 10 X dX0_takeBack_10 rfl ?_
    refine g_get 11 X fa_X0_18 dX0_takeBack_11 0 rfl rfl ?_
    refine g_iconst 14 X (1 : Int32) dX0_takeBack_14 k_ic_1 ?_
    refine g_isub 15 X dX0_takeBack_15 ?_
    refine g_put 16 X (W_X0_takeBack (g_env Γ) h0 h1 h2 h3 h4 h5 q6 v_z_first (v_z_count - (1 : Int32)) v_p1_queued v_p1_last v_p1_before v_p1_ribbon v_p1_right v_p1_pale v_p1_dark v_p1_ghosts v_p1_printed v_p1_heats v_p1_figures v_p1_queue w_ring_el_H w_ring_el_F w_ring_el_Q w_ring_el_I) fa_X0_18 pa_0_2 dX0_takeBack_16 0 rfl rfl rfl (Nat.le_of_ble_eq_true rfl) rfl ?_
    refine g_aload_n 19 X dX0_takeBack_19 1 rfl rfl ?_
    refine g_aload_n 20 X dX0_takeBack_20 0 rfl rfl ?_
    refine g_get 21 X fa_X0_11 dX0_takeBack_21 0 rfl rfl ?_
    refine g_aload_n 24 X dX0_takeBack_24 0 rfl rfl ?_
    refine g_get 25 X fa_X0_22 dX0_takeBack_25 0 rfl rfl ?_
    refine g_aload_n 28 X dX0_takeBack_28 0 rfl rfl ?_
    refine g_get 29 X fa_X0_18 dX0_takeBack_29 0 rfl rfl ?_
    refine g_iadd 32 X dX0_takeBack_32 ?_
    refine g_bipush 33 X (14 : Int32) dX0_takeBack_33 k_bp_14 ?_
    refine g_irem 35 X dX0_takeBack_35 (by decide) ?_
    have f1 := h.1; replace h := h.2
    obtain ⟨k, hk, ek⟩ := vp_in_of f1 (by decide)
    replace h := h k hk ek
    refine g_aelt 36 X dX0_takeBack_36 1 rfl rfl hk ek (by decide) ?_
    clear ek
    match k, hk, h with
    | 0, _, h =>
      refine g_cVV 37 X (st := []) mv_X0_25 dX0_takeBack_37 h2 5 [.ref (q6 0 0)] (c_X5_copyFrom h2 h3 h4 h5 (q6 0 0) (q6 0 1) (q6 0 2) (q6 0 3) v_p1_queued v_p1_last v_p1_before v_p1_ribbon v_p1_right v_p1_pale v_p1_dark v_p1_ghosts v_p1_printed v_p1_heats v_p1_figures v_p1_queue (w_ring_el_I 0 3) (w_ring_el_I 0 4) (w_ring_el_I 0 5) (w_ring_el_I 0 6) (w_ring_el_I 0 7) (w_ring_el_I 0 8) (w_ring_el_I 0 9) (w_ring_el_I 0 10) (w_ring_el_I 0 11) (w_ring_el_H 0) (w_ring_el_F 0) (w_ring_el_Q 0) h) [2, 3, 4, 5, 6, 7, 8, 9] (fun u : Int32 × Int32 × Int32 × Int32 × Int32 × Int32 × Int32 × Int32 × Int32 × (Nat → Int32) × (Nat → Int32) × (Nat → Int32) => (W_X0_takeBack (g_env Γ) h0 h1 h2 h3 h4 h5 q6 v_z_first (v_z_count - (1 : Int32)) u.1 u.2.1 u.2.2.1 u.2.2.2.1 u.2.2.2.2.1 u.2.2.2.2.2.1 u.2.2.2.2.2.2.1 u.2.2.2.2.2.2.2.1 u.2.2.2.2.2.2.2.2.1 u.2.2.2.2.2.2.2.2.2.1 u.2.2.2.2.2.2.2.2.2.2.1 u.2.2.2.2.2.2.2.2.2.2.2 w_ring_el_H w_ring_el_F w_ring_el_Q w_ring_el_I)) rfl ⟨(Nat.le_of_ble_eq_true rfl), (Nat.le_of_ble_eq_true rfl)⟩ ⟨rfl, rfl⟩ (Nat.le_of_ble_eq_true rfl) rfl rfl rfl (by decide) (fun _ => rfl) (fun _ => rfl) (fun u h => ?_)
      obtain ⟨v_p1_queued_14, v_p1_last_15, v_p1_before_16, v_p1_ribbon_17, v_p1_right_18, v_p1_pale_19, v_p1_dark_20, v_p1_ghosts_21, v_p1_printed_22, v_p1_heats_23, v_p1_figures_24, v_p1_queue_25⟩ := u
      dsimp only at h ⊢
      refine g_iconst 40 X (1 : Int32) dX0_takeBack_40 k_ic_1 ?_
      exact ret 41 _ _ ((v_z_count - (1 : Int32)), v_p1_queued_14, v_p1_last_15, v_p1_before_16, v_p1_ribbon_17, v_p1_right_18, v_p1_pale_19, v_p1_dark_20, v_p1_ghosts_21, v_p1_printed_22, v_p1_heats_23, v_p1_figures_24, v_p1_queue_25) dX0_takeBack_41 (by decide) h
    | 1, _, h =>
      refine g_cVV 37 X (st := []) mv_X0_25 dX0_takeBack_37 h2 5 [.ref (q6 1 0)] (c_X5_copyFrom h2 h3 h4 h5 (q6 1 0) (q6 1 1) (q6 1 2) (q6 1 3) v_p1_queued v_p1_last v_p1_before v_p1_ribbon v_p1_right v_p1_pale v_p1_dark v_p1_ghosts v_p1_printed v_p1_heats v_p1_figures v_p1_queue (w_ring_el_I 1 3) (w_ring_el_I 1 4) (w_ring_el_I 1 5) (w_ring_el_I 1 6) (w_ring_el_I 1 7) (w_ring_el_I 1 8) (w_ring_el_I 1 9) (w_ring_el_I 1 10) (w_ring_el_I 1 11) (w_ring_el_H 1) (w_ring_el_F 1) (w_ring_el_Q 1) h) [2, 3, 4, 5, 10, 11, 12, 13] (fun u : Int32 × Int32 × Int32 × Int32 × Int32 × Int32 × Int32 × Int32 × Int32 × (Nat → Int32) × (Nat → Int32) × (Nat → Int32) => (W_X0_takeBack (g_env Γ) h0 h1 h2 h3 h4 h5 q6 v_z_first (v_z_count - (1 : Int32)) u.1 u.2.1 u.2.2.1 u.2.2.2.1 u.2.2.2.2.1 u.2.2.2.2.2.1 u.2.2.2.2.2.2.1 u.2.2.2.2.2.2.2.1 u.2.2.2.2.2.2.2.2.1 u.2.2.2.2.2.2.2.2.2.1 u.2.2.2.2.2.2.2.2.2.2.1 u.2.2.2.2.2.2.2.2.2.2.2 w_ring_el_H w_ring_el_F w_ring_el_Q w_ring_el_I)) rfl ⟨(Nat.le_of_ble_eq_true rfl), (Nat.le_of_ble_eq_true rfl)⟩ ⟨rfl, rfl⟩ (Nat.le_of_ble_eq_true rfl) rfl rfl rfl (by decide) (fun _ => rfl) (fun _ => rfl) (fun u h => ?_)
      obtain ⟨v_p1_queued_26, v_p1_last_27, v_p1_before_28, v_p1_ribbon_29, v_p1_right_30, v_p1_pale_31, v_p1_dark_32, v_p1_ghosts_33, v_p1_printed_34, v_p1_heats_35, v_p1_figures_36, v_p1_queue_37⟩ := u
      dsimp only at h ⊢
      refine g_iconst 40 X (1 : Int32) dX0_takeBack_40 k_ic_1 ?_
      exact ret 41 _ _ ((v_z_count - (1 : Int32)), v_p1_queued_26, v_p1_last_27, v_p1_before_28, v_p1_ribbon_29, v_p1_right_30, v_p1_pale_31, v_p1_dark_32, v_p1_ghosts_33, v_p1_printed_34, v_p1_heats_35, v_p1_figures_36, v_p1_queue_37) dX0_takeBack_41 (by decide) h
    | 2, _, h =>
      refine g_cVV 37 X (st := []) mv_X0_25 dX0_takeBack_37 h2 5 [.ref (q6 2 0)] (c_X5_copyFrom h2 h3 h4 h5 (q6 2 0) (q6 2 1) (q6 2 2) (q6 2 3) v_p1_queued v_p1_last v_p1_before v_p1_ribbon v_p1_right v_p1_pale v_p1_dark v_p1_ghosts v_p1_printed v_p1_heats v_p1_figures v_p1_queue (w_ring_el_I 2 3) (w_ring_el_I 2 4) (w_ring_el_I 2 5) (w_ring_el_I 2 6) (w_ring_el_I 2 7) (w_ring_el_I 2 8) (w_ring_el_I 2 9) (w_ring_el_I 2 10) (w_ring_el_I 2 11) (w_ring_el_H 2) (w_ring_el_F 2) (w_ring_el_Q 2) h) [2, 3, 4, 5, 14, 15, 16, 17] (fun u : Int32 × Int32 × Int32 × Int32 × Int32 × Int32 × Int32 × Int32 × Int32 × (Nat → Int32) × (Nat → Int32) × (Nat → Int32) => (W_X0_takeBack (g_env Γ) h0 h1 h2 h3 h4 h5 q6 v_z_first (v_z_count - (1 : Int32)) u.1 u.2.1 u.2.2.1 u.2.2.2.1 u.2.2.2.2.1 u.2.2.2.2.2.1 u.2.2.2.2.2.2.1 u.2.2.2.2.2.2.2.1 u.2.2.2.2.2.2.2.2.1 u.2.2.2.2.2.2.2.2.2.1 u.2.2.2.2.2.2.2.2.2.2.1 u.2.2.2.2.2.2.2.2.2.2.2 w_ring_el_H w_ring_el_F w_ring_el_Q w_ring_el_I)) rfl ⟨(Nat.le_of_ble_eq_true rfl), (Nat.le_of_ble_eq_true rfl)⟩ ⟨rfl, rfl⟩ (Nat.le_of_ble_eq_true rfl) rfl rfl rfl (by decide) (fun _ => rfl) (fun _ => rfl) (fun u h => ?_)
      obtain ⟨v_p1_queued_38, v_p1_last_39, v_p1_before_40, v_p1_ribbon_41, v_p1_right_42, v_p1_pale_43, v_p1_dark_44, v_p1_ghosts_45, v_p1_printed_46, v_p1_heats_47, v_p1_figures_48, v_p1_queue_49⟩ := u
      dsimp only at h ⊢
      refine g_iconst 40 X (1 : Int32) dX0_takeBack_40 k_ic_1 ?_
      exact ret 41 _ _ ((v_z_count - (1 : Int32)), v_p1_queued_38, v_p1_last_39, v_p1_before_40, v_p1_ribbon_41, v_p1_right_42, v_p1_pale_43, v_p1_dark_44, v_p1_ghosts_45, v_p1_printed_46, v_p1_heats_47, v_p1_figures_48, v_p1_queue_49) dX0_takeBack_41 (by decide) h
    | 3, _, h =>
      refine g_cVV 37 X (st := []) mv_X0_25 dX0_takeBack_37 h2 5 [.ref (q6 3 0)] (c_X5_copyFrom h2 h3 h4 h5 (q6 3 0) (q6 3 1) (q6 3 2) (q6 3 3) v_p1_queued v_p1_last v_p1_before v_p1_ribbon v_p1_right v_p1_pale v_p1_dark v_p1_ghosts v_p1_printed v_p1_heats v_p1_figures v_p1_queue (w_ring_el_I 3 3) (w_ring_el_I 3 4) (w_ring_el_I 3 5) (w_ring_el_I 3 6) (w_ring_el_I 3 7) (w_ring_el_I 3 8) (w_ring_el_I 3 9) (w_ring_el_I 3 10) (w_ring_el_I 3 11) (w_ring_el_H 3) (w_ring_el_F 3) (w_ring_el_Q 3) h) [2, 3, 4, 5, 18, 19, 20, 21] (fun u : Int32 × Int32 × Int32 × Int32 × Int32 × Int32 × Int32 × Int32 × Int32 × (Nat → Int32) × (Nat → Int32) × (Nat → Int32) => (W_X0_takeBack (g_env Γ) h0 h1 h2 h3 h4 h5 q6 v_z_first (v_z_count - (1 : Int32)) u.1 u.2.1 u.2.2.1 u.2.2.2.1 u.2.2.2.2.1 u.2.2.2.2.2.1 u.2.2.2.2.2.2.1 u.2.2.2.2.2.2.2.1 u.2.2.2.2.2.2.2.2.1 u.2.2.2.2.2.2.2.2.2.1 u.2.2.2.2.2.2.2.2.2.2.1 u.2.2.2.2.2.2.2.2.2.2.2 w_ring_el_H w_ring_el_F w_ring_el_Q w_ring_el_I)) rfl ⟨(Nat.le_of_ble_eq_true rfl), (Nat.le_of_ble_eq_true rfl)⟩ ⟨rfl, rfl⟩ (Nat.le_of_ble_eq_true rfl) rfl rfl rfl (by decide) (fun _ => rfl) (fun _ => rfl) (fun u h => ?_)
      obtain ⟨v_p1_queued_50, v_p1_last_51, v_p1_before_52, v_p1_ribbon_53, v_p1_right_54, v_p1_pale_55, v_p1_dark_56, v_p1_ghosts_57, v_p1_printed_58, v_p1_heats_59, v_p1_figures_60, v_p1_queue_61⟩ := u
      dsimp only at h ⊢
      refine g_iconst 40 X (1 : Int32) dX0_takeBack_40 k_ic_1 ?_
      exact ret 41 _ _ ((v_z_count - (1 : Int32)), v_p1_queued_50, v_p1_last_51, v_p1_before_52, v_p1_ribbon_53, v_p1_right_54, v_p1_pale_55, v_p1_dark_56, v_p1_ghosts_57, v_p1_printed_58, v_p1_heats_59, v_p1_figures_60, v_p1_queue_61) dX0_takeBack_41 (by decide) h
    | 4, _, h =>
      refine g_cVV 37 X (st := []) mv_X0_25 dX0_takeBack_37 h2 5 [.ref (q6 4 0)] (c_X5_copyFrom h2 h3 h4 h5 (q6 4 0) (q6 4 1) (q6 4 2) (q6 4 3) v_p1_queued v_p1_last v_p1_before v_p1_ribbon v_p1_right v_p1_pale v_p1_dark v_p1_ghosts v_p1_printed v_p1_heats v_p1_figures v_p1_queue (w_ring_el_I 4 3) (w_ring_el_I 4 4) (w_ring_el_I 4 5) (w_ring_el_I 4 6) (w_ring_el_I 4 7) (w_ring_el_I 4 8) (w_ring_el_I 4 9) (w_ring_el_I 4 10) (w_ring_el_I 4 11) (w_ring_el_H 4) (w_ring_el_F 4) (w_ring_el_Q 4) h) [2, 3, 4, 5, 22, 23, 24, 25] (fun u : Int32 × Int32 × Int32 × Int32 × Int32 × Int32 × Int32 × Int32 × Int32 × (Nat → Int32) × (Nat → Int32) × (Nat → Int32) => (W_X0_takeBack (g_env Γ) h0 h1 h2 h3 h4 h5 q6 v_z_first (v_z_count - (1 : Int32)) u.1 u.2.1 u.2.2.1 u.2.2.2.1 u.2.2.2.2.1 u.2.2.2.2.2.1 u.2.2.2.2.2.2.1 u.2.2.2.2.2.2.2.1 u.2.2.2.2.2.2.2.2.1 u.2.2.2.2.2.2.2.2.2.1 u.2.2.2.2.2.2.2.2.2.2.1 u.2.2.2.2.2.2.2.2.2.2.2 w_ring_el_H w_ring_el_F w_ring_el_Q w_ring_el_I)) rfl ⟨(Nat.le_of_ble_eq_true rfl), (Nat.le_of_ble_eq_true rfl)⟩ ⟨rfl, rfl⟩ (Nat.le_of_ble_eq_true rfl) rfl rfl rfl (by decide) (fun _ => rfl) (fun _ => rfl) (fun u h => ?_)
      obtain ⟨v_p1_queued_62, v_p1_last_63, v_p1_before_64, v_p1_ribbon_65, v_p1_right_66, v_p1_pale_67, v_p1_dark_68, v_p1_ghosts_69, v_p1_printed_70, v_p1_heats_71, v_p1_figures_72, v_p1_queue_73⟩ := u
      dsimp only at h ⊢
      refine g_iconst 40 X (1 : Int32) dX0_takeBack_40 k_ic_1 ?_
      exact ret 41 _ _ ((v_z_count - (1 : Int32)), v_p1_queued_62, v_p1_last_63, v_p1_before_64, v_p1_ribbon_65, v_p1_right_66, v_p1_pale_67, v_p1_dark_68, v_p1_ghosts_69, v_p1_printed_70, v_p1_heats_71, v_p1_figures_72, v_p1_queue_73) dX0_takeBack_41 (by decide) h
    | 5, _, h =>
      refine g_cVV 37 X (st := []) mv_X0_25 dX0_takeBack_37 h2 5 [.ref (q6 5 0)] (c_X5_copyFrom h2 h3 h4 h5 (q6 5 0) (q6 5 1) (q6 5 2) (q6 5 3) v_p1_queued v_p1_last v_p1_before v_p1_ribbon v_p1_right v_p1_pale v_p1_dark v_p1_ghosts v_p1_printed v_p1_heats v_p1_figures v_p1_queue (w_ring_el_I 5 3) (w_ring_el_I 5 4) (w_ring_el_I 5 5) (w_ring_el_I 5 6) (w_ring_el_I 5 7) (w_ring_el_I 5 8) (w_ring_el_I 5 9) (w_ring_el_I 5 10) (w_ring_el_I 5 11) (w_ring_el_H 5) (w_ring_el_F 5) (w_ring_el_Q 5) h) [2, 3, 4, 5, 26, 27, 28, 29] (fun u : Int32 × Int32 × Int32 × Int32 × Int32 × Int32 × Int32 × Int32 × Int32 × (Nat → Int32) × (Nat → Int32) × (Nat → Int32) => (W_X0_takeBack (g_env Γ) h0 h1 h2 h3 h4 h5 q6 v_z_first (v_z_count - (1 : Int32)) u.1 u.2.1 u.2.2.1 u.2.2.2.1 u.2.2.2.2.1 u.2.2.2.2.2.1 u.2.2.2.2.2.2.1 u.2.2.2.2.2.2.2.1 u.2.2.2.2.2.2.2.2.1 u.2.2.2.2.2.2.2.2.2.1 u.2.2.2.2.2.2.2.2.2.2.1 u.2.2.2.2.2.2.2.2.2.2.2 w_ring_el_H w_ring_el_F w_ring_el_Q w_ring_el_I)) rfl ⟨(Nat.le_of_ble_eq_true rfl), (Nat.le_of_ble_eq_true rfl)⟩ ⟨rfl, rfl⟩ (Nat.le_of_ble_eq_true rfl) rfl rfl rfl (by decide) (fun _ => rfl) (fun _ => rfl) (fun u h => ?_)
      obtain ⟨v_p1_queued_74, v_p1_last_75, v_p1_before_76, v_p1_ribbon_77, v_p1_right_78, v_p1_pale_79, v_p1_dark_80, v_p1_ghosts_81, v_p1_printed_82, v_p1_heats_83, v_p1_figures_84, v_p1_queue_85⟩ := u
      dsimp only at h ⊢
      refine g_iconst 40 X (1 : Int32) dX0_takeBack_40 k_ic_1 ?_
      exact ret 41 _ _ ((v_z_count - (1 : Int32)), v_p1_queued_74, v_p1_last_75, v_p1_before_76, v_p1_ribbon_77, v_p1_right_78, v_p1_pale_79, v_p1_dark_80, v_p1_ghosts_81, v_p1_printed_82, v_p1_heats_83, v_p1_figures_84, v_p1_queue_85) dX0_takeBack_41 (by decide) h
    | 6, _, h =>
      refine g_cVV 37 X (st := []) mv_X0_25 dX0_takeBack_37 h2 5 [.ref (q6 6 0)] (c_X5_copyFrom h2 h3 h4 h5 (q6 6 0) (q6 6 1) (q6 6 2) (q6 6 3) v_p1_queued v_p1_last v_p1_before v_p1_ribbon v_p1_right v_p1_pale v_p1_dark v_p1_ghosts v_p1_printed v_p1_heats v_p1_figures v_p1_queue (w_ring_el_I 6 3) (w_ring_el_I 6 4) (w_ring_el_I 6 5) (w_ring_el_I 6 6) (w_ring_el_I 6 7) (w_ring_el_I 6 8) (w_ring_el_I 6 9) (w_ring_el_I 6 10) (w_ring_el_I 6 11) (w_ring_el_H 6) (w_ring_el_F 6) (w_ring_el_Q 6) h) [2, 3, 4, 5, 30, 31, 32, 33] (fun u : Int32 × Int32 × Int32 × Int32 × Int32 × Int32 × Int32 × Int32 × Int32 × (Nat → Int32) × (Nat → Int32) × (Nat → Int32) => (W_X0_takeBack (g_env Γ) h0 h1 h2 h3 h4 h5 q6 v_z_first (v_z_count - (1 : Int32)) u.1 u.2.1 u.2.2.1 u.2.2.2.1 u.2.2.2.2.1 u.2.2.2.2.2.1 u.2.2.2.2.2.2.1 u.2.2.2.2.2.2.2.1 u.2.2.2.2.2.2.2.2.1 u.2.2.2.2.2.2.2.2.2.1 u.2.2.2.2.2.2.2.2.2.2.1 u.2.2.2.2.2.2.2.2.2.2.2 w_ring_el_H w_ring_el_F w_ring_el_Q w_ring_el_I)) rfl ⟨(Nat.le_of_ble_eq_true rfl), (Nat.le_of_ble_eq_true rfl)⟩ ⟨rfl, rfl⟩ (Nat.le_of_ble_eq_true rfl) rfl rfl rfl (by decide) (fun _ => rfl) (fun _ => rfl) (fun u h => ?_)
      obtain ⟨v_p1_queued_86, v_p1_last_87, v_p1_before_88, v_p1_ribbon_89, v_p1_right_90, v_p1_pale_91, v_p1_dark_92, v_p1_ghosts_93, v_p1_printed_94, v_p1_heats_95, v_p1_figures_96, v_p1_queue_97⟩ := u
      dsimp only at h ⊢
      refine g_iconst 40 X (1 : Int32) dX0_takeBack_40 k_ic_1 ?_
      exact ret 41 _ _ ((v_z_count - (1 : Int32)), v_p1_queued_86, v_p1_last_87, v_p1_before_88, v_p1_ribbon_89, v_p1_right_90, v_p1_pale_91, v_p1_dark_92, v_p1_ghosts_93, v_p1_printed_94, v_p1_heats_95, v_p1_figures_96, v_p1_queue_97) dX0_takeBack_41 (by decide) h
    | 7, _, h =>
      refine g_cVV 37 X (st := []) mv_X0_25 dX0_takeBack_37 h2 5 [.ref (q6 7 0)] (c_X5_copyFrom h2 h3 h4 h5 (q6 7 0) (q6 7 1) (q6 7 2) (q6 7 3) v_p1_queued v_p1_last v_p1_before v_p1_ribbon v_p1_right v_p1_pale v_p1_dark v_p1_ghosts v_p1_printed v_p1_heats v_p1_figures v_p1_queue (w_ring_el_I 7 3) (w_ring_el_I 7 4) (w_ring_el_I 7 5) (w_ring_el_I 7 6) (w_ring_el_I 7 7) (w_ring_el_I 7 8) (w_ring_el_I 7 9) (w_ring_el_I 7 10) (w_ring_el_I 7 11) (w_ring_el_H 7) (w_ring_el_F 7) (w_ring_el_Q 7) h) [2, 3, 4, 5, 34, 35, 36, 37] (fun u : Int32 × Int32 × Int32 × Int32 × Int32 × Int32 × Int32 × Int32 × Int32 × (Nat → Int32) × (Nat → Int32) × (Nat → Int32) => (W_X0_takeBack (g_env Γ) h0 h1 h2 h3 h4 h5 q6 v_z_first (v_z_count - (1 : Int32)) u.1 u.2.1 u.2.2.1 u.2.2.2.1 u.2.2.2.2.1 u.2.2.2.2.2.1 u.2.2.2.2.2.2.1 u.2.2.2.2.2.2.2.1 u.2.2.2.2.2.2.2.2.1 u.2.2.2.2.2.2.2.2.2.1 u.2.2.2.2.2.2.2.2.2.2.1 u.2.2.2.2.2.2.2.2.2.2.2 w_ring_el_H w_ring_el_F w_ring_el_Q w_ring_el_I)) rfl ⟨(Nat.le_of_ble_eq_true rfl), (Nat.le_of_ble_eq_true rfl)⟩ ⟨rfl, rfl⟩ (Nat.le_of_ble_eq_true rfl) rfl rfl rfl (by decide) (fun _ => rfl) (fun _ => rfl) (fun u h => ?_)
      obtain ⟨v_p1_queued_98, v_p1_last_99, v_p1_before_100, v_p1_ribbon_101, v_p1_right_102, v_p1_pale_103, v_p1_dark_104, v_p1_ghosts_105, v_p1_printed_106, v_p1_heats_107, v_p1_figures_108, v_p1_queue_109⟩ := u
      dsimp only at h ⊢
      refine g_iconst 40 X (1 : Int32) dX0_takeBack_40 k_ic_1 ?_
      exact ret 41 _ _ ((v_z_count - (1 : Int32)), v_p1_queued_98, v_p1_last_99, v_p1_before_100, v_p1_ribbon_101, v_p1_right_102, v_p1_pale_103, v_p1_dark_104, v_p1_ghosts_105, v_p1_printed_106, v_p1_heats_107, v_p1_figures_108, v_p1_queue_109) dX0_takeBack_41 (by decide) h
    | 8, _, h =>
      refine g_cVV 37 X (st := []) mv_X0_25 dX0_takeBack_37 h2 5 [.ref (q6 8 0)] (c_X5_copyFrom h2 h3 h4 h5 (q6 8 0) (q6 8 1) (q6 8 2) (q6 8 3) v_p1_queued v_p1_last v_p1_before v_p1_ribbon v_p1_right v_p1_pale v_p1_dark v_p1_ghosts v_p1_printed v_p1_heats v_p1_figures v_p1_queue (w_ring_el_I 8 3) (w_ring_el_I 8 4) (w_ring_el_I 8 5) (w_ring_el_I 8 6) (w_ring_el_I 8 7) (w_ring_el_I 8 8) (w_ring_el_I 8 9) (w_ring_el_I 8 10) (w_ring_el_I 8 11) (w_ring_el_H 8) (w_ring_el_F 8) (w_ring_el_Q 8) h) [2, 3, 4, 5, 38, 39, 40, 41] (fun u : Int32 × Int32 × Int32 × Int32 × Int32 × Int32 × Int32 × Int32 × Int32 × (Nat → Int32) × (Nat → Int32) × (Nat → Int32) => (W_X0_takeBack (g_env Γ) h0 h1 h2 h3 h4 h5 q6 v_z_first (v_z_count - (1 : Int32)) u.1 u.2.1 u.2.2.1 u.2.2.2.1 u.2.2.2.2.1 u.2.2.2.2.2.1 u.2.2.2.2.2.2.1 u.2.2.2.2.2.2.2.1 u.2.2.2.2.2.2.2.2.1 u.2.2.2.2.2.2.2.2.2.1 u.2.2.2.2.2.2.2.2.2.2.1 u.2.2.2.2.2.2.2.2.2.2.2 w_ring_el_H w_ring_el_F w_ring_el_Q w_ring_el_I)) rfl ⟨(Nat.le_of_ble_eq_true rfl), (Nat.le_of_ble_eq_true rfl)⟩ ⟨rfl, rfl⟩ (Nat.le_of_ble_eq_true rfl) rfl rfl rfl (by decide) (fun _ => rfl) (fun _ => rfl) (fun u h => ?_)
      obtain ⟨v_p1_queued_110, v_p1_last_111, v_p1_before_112, v_p1_ribbon_113, v_p1_right_114, v_p1_pale_115, v_p1_dark_116, v_p1_ghosts_117, v_p1_printed_118, v_p1_heats_119, v_p1_figures_120, v_p1_queue_121⟩ := u
      dsimp only at h ⊢
      refine g_iconst 40 X (1 : Int32) dX0_takeBack_40 k_ic_1 ?_
      exact ret 41 _ _ ((v_z_count - (1 : Int32)), v_p1_queued_110, v_p1_last_111, v_p1_before_112, v_p1_ribbon_113, v_p1_right_114, v_p1_pale_115, v_p1_dark_116, v_p1_ghosts_117, v_p1_printed_118, v_p1_heats_119, v_p1_figures_120, v_p1_queue_121) dX0_takeBack_41 (by decide) h
    | 9, _, h =>
      refine g_cVV 37 X (st := []) mv_X0_25 dX0_takeBack_37 h2 5 [.ref (q6 9 0)] (c_X5_copyFrom h2 h3 h4 h5 (q6 9 0) (q6 9 1) (q6 9 2) (q6 9 3) v_p1_queued v_p1_last v_p1_before v_p1_ribbon v_p1_right v_p1_pale v_p1_dark v_p1_ghosts v_p1_printed v_p1_heats v_p1_figures v_p1_queue (w_ring_el_I 9 3) (w_ring_el_I 9 4) (w_ring_el_I 9 5) (w_ring_el_I 9 6) (w_ring_el_I 9 7) (w_ring_el_I 9 8) (w_ring_el_I 9 9) (w_ring_el_I 9 10) (w_ring_el_I 9 11) (w_ring_el_H 9) (w_ring_el_F 9) (w_ring_el_Q 9) h) [2, 3, 4, 5, 42, 43, 44, 45] (fun u : Int32 × Int32 × Int32 × Int32 × Int32 × Int32 × Int32 × Int32 × Int32 × (Nat → Int32) × (Nat → Int32) × (Nat → Int32) => (W_X0_takeBack (g_env Γ) h0 h1 h2 h3 h4 h5 q6 v_z_first (v_z_count - (1 : Int32)) u.1 u.2.1 u.2.2.1 u.2.2.2.1 u.2.2.2.2.1 u.2.2.2.2.2.1 u.2.2.2.2.2.2.1 u.2.2.2.2.2.2.2.1 u.2.2.2.2.2.2.2.2.1 u.2.2.2.2.2.2.2.2.2.1 u.2.2.2.2.2.2.2.2.2.2.1 u.2.2.2.2.2.2.2.2.2.2.2 w_ring_el_H w_ring_el_F w_ring_el_Q w_ring_el_I)) rfl ⟨(Nat.le_of_ble_eq_true rfl), (Nat.le_of_ble_eq_true rfl)⟩ ⟨rfl, rfl⟩ (Nat.le_of_ble_eq_true rfl) rfl rfl rfl (by decide) (fun _ => rfl) (fun _ => rfl) (fun u h => ?_)
      obtain ⟨v_p1_queued_122, v_p1_last_123, v_p1_before_124, v_p1_ribbon_125, v_p1_right_126, v_p1_pale_127, v_p1_dark_128, v_p1_ghosts_129, v_p1_printed_130, v_p1_heats_131, v_p1_figures_132, v_p1_queue_133⟩ := u
      dsimp only at h ⊢
      refine g_iconst 40 X (1 : Int32) dX0_takeBack_40 k_ic_1 ?_
      exact ret 41 _ _ ((v_z_count - (1 : Int32)), v_p1_queued_122, v_p1_last_123, v_p1_before_124, v_p1_ribbon_125, v_p1_right_126, v_p1_pale_127, v_p1_dark_128, v_p1_ghosts_129, v_p1_printed_130, v_p1_heats_131, v_p1_figures_132, v_p1_queue_133) dX0_takeBack_41 (by decide) h
    | 10, _, h =>
      refine g_cVV 37 X (st := []) mv_X0_25 dX0_takeBack_37 h2 5 [.ref (q6 10 0)] (c_X5_copyFrom h2 h3 h4 h5 (q6 10 0) (q6 10 1) (q6 10 2) (q6 10 3) v_p1_queued v_p1_last v_p1_before v_p1_ribbon v_p1_right v_p1_pale v_p1_dark v_p1_ghosts v_p1_printed v_p1_heats v_p1_figures v_p1_queue (w_ring_el_I 10 3) (w_ring_el_I 10 4) (w_ring_el_I 10 5) (w_ring_el_I 10 6) (w_ring_el_I 10 7) (w_ring_el_I 10 8) (w_ring_el_I 10 9) (w_ring_el_I 10 10) (w_ring_el_I 10 11) (w_ring_el_H 10) (w_ring_el_F 10) (w_ring_el_Q 10) h) [2, 3, 4, 5, 46, 47, 48, 49] (fun u : Int32 × Int32 × Int32 × Int32 × Int32 × Int32 × Int32 × Int32 × Int32 × (Nat → Int32) × (Nat → Int32) × (Nat → Int32) => (W_X0_takeBack (g_env Γ) h0 h1 h2 h3 h4 h5 q6 v_z_first (v_z_count - (1 : Int32)) u.1 u.2.1 u.2.2.1 u.2.2.2.1 u.2.2.2.2.1 u.2.2.2.2.2.1 u.2.2.2.2.2.2.1 u.2.2.2.2.2.2.2.1 u.2.2.2.2.2.2.2.2.1 u.2.2.2.2.2.2.2.2.2.1 u.2.2.2.2.2.2.2.2.2.2.1 u.2.2.2.2.2.2.2.2.2.2.2 w_ring_el_H w_ring_el_F w_ring_el_Q w_ring_el_I)) rfl ⟨(Nat.le_of_ble_eq_true rfl), (Nat.le_of_ble_eq_true rfl)⟩ ⟨rfl, rfl⟩ (Nat.le_of_ble_eq_true rfl) rfl rfl rfl (by decide) (fun _ => rfl) (fun _ => rfl) (fun u h => ?_)
      obtain ⟨v_p1_queued_134, v_p1_last_135, v_p1_before_136, v_p1_ribbon_137, v_p1_right_138, v_p1_pale_139, v_p1_dark_140, v_p1_ghosts_141, v_p1_printed_142, v_p1_heats_143, v_p1_figures_144, v_p1_queue_145⟩ := u
      dsimp only at h ⊢
      refine g_iconst 40 X (1 : Int32) dX0_takeBack_40 k_ic_1 ?_
      exact ret 41 _ _ ((v_z_count - (1 : Int32)), v_p1_queued_134, v_p1_last_135, v_p1_before_136, v_p1_ribbon_137, v_p1_right_138, v_p1_pale_139, v_p1_dark_140, v_p1_ghosts_141, v_p1_printed_142, v_p1_heats_143, v_p1_figures_144, v_p1_queue_145) dX0_takeBack_41 (by decide) h
    | 11, _, h =>
      refine g_cVV 37 X (st := []) mv_X0_25 dX0_takeBack_37 h2 5 [.ref (q6 11 0)] (c_X5_copyFrom h2 h3 h4 h5 (q6 11 0) (q6 11 1) (q6 11 2) (q6 11 3) v_p1_queued v_p1_last v_p1_before v_p1_ribbon v_p1_right v_p1_pale v_p1_dark v_p1_ghosts v_p1_printed v_p1_heats v_p1_figures v_p1_queue (w_ring_el_I 11 3) (w_ring_el_I 11 4) (w_ring_el_I 11 5) (w_ring_el_I 11 6) (w_ring_el_I 11 7) (w_ring_el_I 11 8) (w_ring_el_I 11 9) (w_ring_el_I 11 10) (w_ring_el_I 11 11) (w_ring_el_H 11) (w_ring_el_F 11) (w_ring_el_Q 11) h) [2, 3, 4, 5, 50, 51, 52, 53] (fun u : Int32 × Int32 × Int32 × Int32 × Int32 × Int32 × Int32 × Int32 × Int32 × (Nat → Int32) × (Nat → Int32) × (Nat → Int32) => (W_X0_takeBack (g_env Γ) h0 h1 h2 h3 h4 h5 q6 v_z_first (v_z_count - (1 : Int32)) u.1 u.2.1 u.2.2.1 u.2.2.2.1 u.2.2.2.2.1 u.2.2.2.2.2.1 u.2.2.2.2.2.2.1 u.2.2.2.2.2.2.2.1 u.2.2.2.2.2.2.2.2.1 u.2.2.2.2.2.2.2.2.2.1 u.2.2.2.2.2.2.2.2.2.2.1 u.2.2.2.2.2.2.2.2.2.2.2 w_ring_el_H w_ring_el_F w_ring_el_Q w_ring_el_I)) rfl ⟨(Nat.le_of_ble_eq_true rfl), (Nat.le_of_ble_eq_true rfl)⟩ ⟨rfl, rfl⟩ (Nat.le_of_ble_eq_true rfl) rfl rfl rfl (by decide) (fun _ => rfl) (fun _ => rfl) (fun u h => ?_)
      obtain ⟨v_p1_queued_146, v_p1_last_147, v_p1_before_148, v_p1_ribbon_149, v_p1_right_150, v_p1_pale_151, v_p1_dark_152, v_p1_ghosts_153, v_p1_printed_154, v_p1_heats_155, v_p1_figures_156, v_p1_queue_157⟩ := u
      dsimp only at h ⊢
      refine g_iconst 40 X (1 : Int32) dX0_takeBack_40 k_ic_1 ?_
      exact ret 41 _ _ ((v_z_count - (1 : Int32)), v_p1_queued_146, v_p1_last_147, v_p1_before_148, v_p1_ribbon_149, v_p1_right_150, v_p1_pale_151, v_p1_dark_152, v_p1_ghosts_153, v_p1_printed_154, v_p1_heats_155, v_p1_figures_156, v_p1_queue_157) dX0_takeBack_41 (by decide) h
    | 12, _, h =>
      refine g_cVV 37 X (st := []) mv_X0_25 dX0_takeBack_37 h2 5 [.ref (q6 12 0)] (c_X5_copyFrom h2 h3 h4 h5 (q6 12 0) (q6 12 1) (q6 12 2) (q6 12 3) v_p1_queued v_p1_last v_p1_before v_p1_ribbon v_p1_right v_p1_pale v_p1_dark v_p1_ghosts v_p1_printed v_p1_heats v_p1_figures v_p1_queue (w_ring_el_I 12 3) (w_ring_el_I 12 4) (w_ring_el_I 12 5) (w_ring_el_I 12 6) (w_ring_el_I 12 7) (w_ring_el_I 12 8) (w_ring_el_I 12 9) (w_ring_el_I 12 10) (w_ring_el_I 12 11) (w_ring_el_H 12) (w_ring_el_F 12) (w_ring_el_Q 12) h) [2, 3, 4, 5, 54, 55, 56, 57] (fun u : Int32 × Int32 × Int32 × Int32 × Int32 × Int32 × Int32 × Int32 × Int32 × (Nat → Int32) × (Nat → Int32) × (Nat → Int32) => (W_X0_takeBack (g_env Γ) h0 h1 h2 h3 h4 h5 q6 v_z_first (v_z_count - (1 : Int32)) u.1 u.2.1 u.2.2.1 u.2.2.2.1 u.2.2.2.2.1 u.2.2.2.2.2.1 u.2.2.2.2.2.2.1 u.2.2.2.2.2.2.2.1 u.2.2.2.2.2.2.2.2.1 u.2.2.2.2.2.2.2.2.2.1 u.2.2.2.2.2.2.2.2.2.2.1 u.2.2.2.2.2.2.2.2.2.2.2 w_ring_el_H w_ring_el_F w_ring_el_Q w_ring_el_I)) rfl ⟨(Nat.le_of_ble_eq_true rfl), (Nat.le_of_ble_eq_true rfl)⟩ ⟨rfl, rfl⟩ (Nat.le_of_ble_eq_true rfl) rfl rfl rfl (by decide) (fun _ => rfl) (fun _ => rfl) (fun u h => ?_)
      obtain ⟨v_p1_queued_158, v_p1_last_159, v_p1_before_160, v_p1_ribbon_161, v_p1_right_162, v_p1_pale_163, v_p1_dark_164, v_p1_ghosts_165, v_p1_printed_166, v_p1_heats_167, v_p1_figures_168, v_p1_queue_169⟩ := u
      dsimp only at h ⊢
      refine g_iconst 40 X (1 : Int32) dX0_takeBack_40 k_ic_1 ?_
      exact ret 41 _ _ ((v_z_count - (1 : Int32)), v_p1_queued_158, v_p1_last_159, v_p1_before_160, v_p1_ribbon_161, v_p1_right_162, v_p1_pale_163, v_p1_dark_164, v_p1_ghosts_165, v_p1_printed_166, v_p1_heats_167, v_p1_figures_168, v_p1_queue_169) dX0_takeBack_41 (by decide) h
    | 13, _, h =>
      refine g_cVV 37 X (st := []) mv_X0_25 dX0_takeBack_37 h2 5 [.ref (q6 13 0)] (c_X5_copyFrom h2 h3 h4 h5 (q6 13 0) (q6 13 1) (q6 13 2) (q6 13 3) v_p1_queued v_p1_last v_p1_before v_p1_ribbon v_p1_right v_p1_pale v_p1_dark v_p1_ghosts v_p1_printed v_p1_heats v_p1_figures v_p1_queue (w_ring_el_I 13 3) (w_ring_el_I 13 4) (w_ring_el_I 13 5) (w_ring_el_I 13 6) (w_ring_el_I 13 7) (w_ring_el_I 13 8) (w_ring_el_I 13 9) (w_ring_el_I 13 10) (w_ring_el_I 13 11) (w_ring_el_H 13) (w_ring_el_F 13) (w_ring_el_Q 13) h) [2, 3, 4, 5, 58, 59, 60, 61] (fun u : Int32 × Int32 × Int32 × Int32 × Int32 × Int32 × Int32 × Int32 × Int32 × (Nat → Int32) × (Nat → Int32) × (Nat → Int32) => (W_X0_takeBack (g_env Γ) h0 h1 h2 h3 h4 h5 q6 v_z_first (v_z_count - (1 : Int32)) u.1 u.2.1 u.2.2.1 u.2.2.2.1 u.2.2.2.2.1 u.2.2.2.2.2.1 u.2.2.2.2.2.2.1 u.2.2.2.2.2.2.2.1 u.2.2.2.2.2.2.2.2.1 u.2.2.2.2.2.2.2.2.2.1 u.2.2.2.2.2.2.2.2.2.2.1 u.2.2.2.2.2.2.2.2.2.2.2 w_ring_el_H w_ring_el_F w_ring_el_Q w_ring_el_I)) rfl ⟨(Nat.le_of_ble_eq_true rfl), (Nat.le_of_ble_eq_true rfl)⟩ ⟨rfl, rfl⟩ (Nat.le_of_ble_eq_true rfl) rfl rfl rfl (by decide) (fun _ => rfl) (fun _ => rfl) (fun u h => ?_)
      obtain ⟨v_p1_queued_170, v_p1_last_171, v_p1_before_172, v_p1_ribbon_173, v_p1_right_174, v_p1_pale_175, v_p1_dark_176, v_p1_ghosts_177, v_p1_printed_178, v_p1_heats_179, v_p1_figures_180, v_p1_queue_181⟩ := u
      dsimp only at h ⊢
      refine g_iconst 40 X (1 : Int32) dX0_takeBack_40 k_ic_1 ?_
      exact ret 41 _ _ ((v_z_count - (1 : Int32)), v_p1_queued_170, v_p1_last_171, v_p1_before_172, v_p1_ribbon_173, v_p1_right_174, v_p1_pale_175, v_p1_dark_176, v_p1_ghosts_177, v_p1_printed_178, v_p1_heats_179, v_p1_figures_180, v_p1_queue_181) dX0_takeBack_41 (by decide) h
    | k + 14, hk, _ => exact absurd hk (by omega)
  · replace h := h.2 c
    refine g_iconst 7 X (0 : Int32) dX0_takeBack_7 k_ic_0 ?_
    exact ret 8 _ _ (v_z_count, v_p1_queued, v_p1_last, v_p1_before, v_p1_ribbon, v_p1_right, v_p1_pale, v_p1_dark, v_p1_ghosts, v_p1_printed, v_p1_heats, v_p1_figures, v_p1_queue) dX0_takeBack_8 (by decide) h

def W_X0_forgetAll (E : g_E) (h0 : Nat) (o0 o1 : Value) (v_z_count : Int32) : va_W := [(h0, .inr (0, [o0, o1, .int v_z_count]))]
def P_X0_forgetAll (v_z_count : Int32) (K : Int32 → Prop) : Prop := K (0 : Int32)
set_option maxHeartbeats 4000000 in
set_option maxRecDepth 100000 in
theorem c_X0_forgetAll {l : Launch} {E : g_E} (h0 : Nat) (o0 o1 : Value) (v_z_count : Int32) {K : Int32 → Prop} (h : P_X0_forgetAll v_z_count K) : g_CV l E yX0_forgetAll cX0_forgetAll 1 (g_Rm 0 0) [.ref h0] (W_X0_forgetAll E h0 o0 o1 v_z_count) (fun (u : Int32) => K u) (fun (u : Int32) => (W_X0_forgetAll E h0 o0 o1 u)) := by
  refine g_entV RX0 (by decide) rfl (Nat.le_of_ble_eq_true rfl) ?_
  intro Γ X hE hl ret
  subst hE
  subst hl
  unfold P_X0_forgetAll at h
  show g_G Γ (g_Rm 0 0) 1 0 [(0, .ref h0)] [] (W_X0_forgetAll (g_env Γ) h0 o0 o1 v_z_count)
  refine g_aload_n 0 X dX0_forgetAll_0 0 rfl rfl ?_
  refine g_iconst 1 X (0 : Int32) dX0_forgetAll_1 k_ic_0 ?_
  refine g_put 2 X (W_X0_forgetAll (g_env Γ) h0 o0 o1 (0 : Int32)) fa_X0_18 pa_0_2 dX0_forgetAll_2 0 rfl rfl rfl (Nat.le_of_ble_eq_true rfl) rfl ?_
  exact ret 5 _ ((0 : Int32)) dX0_forgetAll_5 h

def W_X1_hasDot (E : g_E) (h0 : Nat) (o0 o1 o2 o3 o4 o5 : Value) (v_z_dots : Int32) : va_W := [(h0, .inr (1, [o0, .int v_z_dots, o1, o2, o3, o4, o5]))]
def P_X1_hasDot (b1 : Int32) (v_z_dots : Int32) (K : Int32 → Prop) : Prop := ((b1 < (0 : Int32) → K (0 : Int32)) ∧ (¬ b1 < (0 : Int32) → ((v_z_dots ≤ b1 → K (0 : Int32)) ∧ (¬ v_z_dots ≤ b1 → K (1 : Int32)))))
set_option maxHeartbeats 4000000 in
set_option maxRecDepth 100000 in
theorem c_X1_hasDot {l : Launch} {E : g_E} (h0 : Nat) (o0 o1 o2 o3 o4 o5 : Value) (v_z_dots : Int32) (b1 : Int32) {K : Int32 → Prop} (h : P_X1_hasDot b1 v_z_dots K) : g_CI l E yX1_hasDot cX1_hasDot 2 .boolean (g_Rm 0 0) [.ref h0, .int b1] (W_X1_hasDot E h0 o0 o1 o2 o3 o4 o5 v_z_dots) (fun r (u : Unit) => K r) (fun (u : Unit) => (W_X1_hasDot E h0 o0 o1 o2 o3 o4 o5 v_z_dots)) := by
  refine g_entI RX1 (by decide) rfl (Nat.le_of_ble_eq_true rfl) ?_
  intro Γ X hE hl ret
  subst hE
  subst hl
  unfold P_X1_hasDot at h
  show g_G Γ (g_Rm 0 0) 2 0 [(0, .ref h0), (1, .int b1)] [] (W_X1_hasDot (g_env Γ) h0 o0 o1 o2 o3 o4 o5 v_z_dots)
  refine g_iload_n 0 X dX1_hasDot_0 1 rfl rfl ?_
  refine g_if_lt 1 X 16 dX1_hasDot_1 (by decide) (fun c => ?_) (fun c => ?_)
  · replace h := h.1 c
    refine g_iconst 16 X (0 : Int32) dX1_hasDot_16 k_ic_0 ?_
    exact ret 17 _ _ () dX1_hasDot_17 (by decide) h
  · replace h := h.2 c
    refine g_iload_n 4 X dX1_hasDot_4 1 rfl rfl ?_
    refine g_aload_n 5 X dX1_hasDot_5 0 rfl rfl ?_
    refine g_get 6 X fa_X1_15 dX1_hasDot_6 0 rfl rfl ?_
    refine g_icmp_ge 9 X 16 dX1_hasDot_9 (by decide) (fun c => ?_) (fun c => ?_)
    · replace h := h.1 c
      refine g_iconst 16 X (0 : Int32) dX1_hasDot_16 k_ic_0 ?_
      exact ret 17 _ _ () dX1_hasDot_17 (by decide) h
    · replace h := h.2 c
      refine g_iconst 12 X (1 : Int32) dX1_hasDot_12 k_ic_1 ?_
      refine g_goto 13 X 17 dX1_hasDot_13 (by decide) ?_
      exact ret 17 _ _ () dX1_hasDot_17 (by decide) h

def W_X1_allDots (E : g_E) (h0 : Nat) (o0 o1 o2 o3 o4 o5 : Value) (v_z_dots : Int32) : va_W := [(h0, .inr (1, [o0, .int v_z_dots, o1, o2, o3, o4, o5]))]
def P_X1_allDots (v_z_dots : Int32) (K : Int32 → Prop) : Prop := K (((1 : Int32) <<< (v_z_dots &&& (31 : Int32))) - (1 : Int32))
set_option maxHeartbeats 4000000 in
set_option maxRecDepth 100000 in
theorem c_X1_allDots {l : Launch} {E : g_E} (h0 : Nat) (o0 o1 o2 o3 o4 o5 : Value) (v_z_dots : Int32) {K : Int32 → Prop} (h : P_X1_allDots v_z_dots K) : g_CI l E yX1_allDots cX1_allDots 1 .int (g_Rm 0 0) [.ref h0] (W_X1_allDots E h0 o0 o1 o2 o3 o4 o5 v_z_dots) (fun r (u : Unit) => K r) (fun (u : Unit) => (W_X1_allDots E h0 o0 o1 o2 o3 o4 o5 v_z_dots)) := by
  refine g_entI RX1 (by decide) rfl (Nat.le_of_ble_eq_true rfl) ?_
  intro Γ X hE hl ret
  subst hE
  subst hl
  unfold P_X1_allDots at h
  show g_G Γ (g_Rm 0 0) 1 0 [(0, .ref h0)] [] (W_X1_allDots (g_env Γ) h0 o0 o1 o2 o3 o4 o5 v_z_dots)
  refine g_iconst 0 X (1 : Int32) dX1_allDots_0 k_ic_1 ?_
  refine g_aload_n 1 X dX1_allDots_1 0 rfl rfl ?_
  refine g_get 2 X fa_X1_15 dX1_allDots_2 0 rfl rfl ?_
  refine g_ishl 5 X dX1_allDots_5 ?_
  refine g_iconst 6 X (1 : Int32) dX1_allDots_6 k_ic_1 ?_
  refine g_isub 7 X dX1_allDots_7 ?_
  exact ret 8 _ _ () dX1_allDots_8 (vp_nar_int _) h

def W_X1_hasDots (E : g_E) (h0 : Nat) (o0 o1 o2 o3 o4 o5 : Value) (v_z_dots : Int32) : va_W := [(h0, .inr (1, [o0, .int v_z_dots, o1, o2, o3, o4, o5]))]
def P_X1_hasDots (b1 : Int32) (v_z_dots : Int32) (K : Int32 → Prop) : Prop := ((b1 < (0 : Int32) → K (0 : Int32)) ∧ (¬ b1 < (0 : Int32) → (P_X1_allDots v_z_dots (fun r1 => ((r1 < b1 → K (0 : Int32)) ∧ (¬ r1 < b1 → K (1 : Int32)))))))
set_option maxHeartbeats 4000000 in
set_option maxRecDepth 100000 in
theorem c_X1_hasDots {l : Launch} {E : g_E} (h0 : Nat) (o0 o1 o2 o3 o4 o5 : Value) (v_z_dots : Int32) (b1 : Int32) {K : Int32 → Prop} (h : P_X1_hasDots b1 v_z_dots K) : g_CI l E yX1_hasDots cX1_hasDots 2 .boolean (g_Rm 1 20) [.ref h0, .int b1] (W_X1_hasDots E h0 o0 o1 o2 o3 o4 o5 v_z_dots) (fun r (u : Unit) => K r) (fun (u : Unit) => (W_X1_hasDots E h0 o0 o1 o2 o3 o4 o5 v_z_dots)) := by
  refine g_entI RX1 (by decide) rfl (Nat.le_of_ble_eq_true rfl) ?_
  intro Γ X hE hl ret
  subst hE
  subst hl
  unfold P_X1_hasDots at h
  show g_G Γ (g_Rm 1 20) 2 0 [(0, .ref h0), (1, .int b1)] [] (W_X1_hasDots (g_env Γ) h0 o0 o1 o2 o3 o4 o5 v_z_dots)
  refine g_iload_n 0 X dX1_hasDots_0 1 rfl rfl ?_
  refine g_if_lt 1 X 16 dX1_hasDots_1 (by decide) (fun c => ?_) (fun c => ?_)
  · replace h := h.1 c
    refine g_iconst 16 X (0 : Int32) dX1_hasDots_16 k_ic_0 ?_
    exact ret 17 _ _ () dX1_hasDots_17 (by decide) h
  · replace h := h.2 c
    refine g_iload_n 4 X dX1_hasDots_4 1 rfl rfl ?_
    refine g_aload_n 5 X dX1_hasDots_5 0 rfl rfl ?_
    refine g_cVI 6 X (st := [.int b1]) mv_X1_25 dX1_hasDots_6 h0 1 [] (c_X1_allDots h0 o0 o1 o2 o3 o4 o5 v_z_dots h) [0] (fun u : Unit => (W_X1_hasDots (g_env Γ) h0 o0 o1 o2 o3 o4 o5 v_z_dots)) rfl ⟨(Nat.le_of_ble_eq_true rfl), (Nat.le_of_ble_eq_true rfl)⟩ ⟨rfl, rfl⟩ (Nat.le_of_ble_eq_true rfl) rfl rfl rfl (by decide) (fun _ => rfl) (fun _ => rfl) (fun r1 u h => ?_)
    refine g_icmp_gt 9 X 16 dX1_hasDots_9 (by decide) (fun c => ?_) (fun c => ?_)
    · replace h := h.1 c
      refine g_iconst 16 X (0 : Int32) dX1_hasDots_16 k_ic_0 ?_
      exact ret 17 _ _ () dX1_hasDots_17 (by decide) h
    · replace h := h.2 c
      refine g_iconst 12 X (1 : Int32) dX1_hasDots_12 k_ic_1 ?_
      refine g_goto 13 X 17 dX1_hasDots_13 (by decide) ?_
      exact ret 17 _ _ () dX1_hasDots_17 (by decide) h

def W_X1_coolDown (E : g_E) (h0 : Nat) (h1 : Nat) (h2 : Nat) (o0 o1 o2 o3 o4 o5 o6 o7 o8 o9 o10 o11 o12 o13 o14 o15 : Value) (v_z_dots : Int32) (v_z_cool : Int32) (v_p1_heats : Nat → Int32) : va_W := [(h0, .inr (1, [o0, .int v_z_dots, .int v_z_cool, o1, o2, o3, o4])), (h1, .inr (5, [.ref h2, o5, o6, o7, o8, o9, o10, o11, o12, o13, o14, o15])), (h2, .inl (E.2.1, 8, .inl v_p1_heats))]
def P_X1_coolDown_L2 (v_z_dots : Int32) (v_z_cool : Int32) (C36 : (Nat → Int32) → Prop) : Nat → Int32 → (Nat → Int32) → Prop
  | 0, _, _ => False
  | n + 1, x2, v_p1_heats => ((v_z_dots ≤ x2 → C36 v_p1_heats) ∧ (¬ v_z_dots ≤ x2 → (vp_in x2 8 ∧ P_X1_coolDown_L2 v_z_dots v_z_cool C36 n (x2 + (1 : Int32)) (upd v_p1_heats (Int32.toNatClampNeg x2) ((v_p1_heats (Int32.toNatClampNeg x2)) - ((v_p1_heats (Int32.toNatClampNeg x2)) >>> (v_z_cool &&& (31 : Int32))))))))
def P_X1_coolDown (v_z_dots : Int32) (v_z_cool : Int32) (v_p1_heats : Nat → Int32) (K : (Nat → Int32) → Prop) : Prop := (∃ ne : Nat, P_X1_coolDown_L2 v_z_dots v_z_cool (fun v_p1_heats_3 => K v_p1_heats_3) ne (0 : Int32) v_p1_heats)
set_option maxHeartbeats 4000000 in
set_option maxRecDepth 100000 in
theorem l_X1_coolDown_2 {Γ : g_C} (X : g_X Γ (g_Rm 0 0) cX1_coolDown RX1 3) (h0 : Nat) (h1 : Nat) (h2 : Nat) (o0 o1 o2 o3 o4 o5 o6 o7 o8 o9 o10 o11 o12 o13 o14 o15 : Value) (v_z_dots : Int32) (v_z_cool : Int32) {C36 : (Nat → Int32) → Prop} (hC36 : ∀ (v_p1_heats : Nat → Int32), C36 v_p1_heats → g_G Γ (g_Rm 0 0) 3 36 [] [] (W_X1_coolDown (g_env Γ) h0 h1 h2 o0 o1 o2 o3 o4 o5 o6 o7 o8 o9 o10 o11 o12 o13 o14 o15 v_z_dots v_z_cool v_p1_heats)) : ∀ (n : Nat) (x2 : Int32) (v_p1_heats : Nat → Int32), P_X1_coolDown_L2 v_z_dots v_z_cool C36 n x2 v_p1_heats → g_G Γ (g_Rm 0 0) 3 2 [(0, .ref h0), (1, .ref h1), (2, .int x2)] [] (W_X1_coolDown (g_env Γ) h0 h1 h2 o0 o1 o2 o3 o4 o5 o6 o7 o8 o9 o10 o11 o12 o13 o14 o15 v_z_dots v_z_cool v_p1_heats) := by
  intro n
  induction n with
  | zero => intro x2 v_p1_heats h; exact False.elim h
  | succ n ih =>
    intro x2 v_p1_heats h
    unfold P_X1_coolDown_L2 at h
    refine g_iload_n 2 X dX1_coolDown_2 2 rfl rfl ?_
    refine g_aload_n 3 X dX1_coolDown_3 0 rfl rfl ?_
    refine g_get 4 X fa_X1_15 dX1_coolDown_4 0 rfl rfl ?_
    refine g_icmp_ge 7 X 36 dX1_coolDown_7 (by decide) (fun c => ?_) (fun c => ?_)
    · replace h := h.1 c
      refine g_sub [] [] rfl ?_
      exact hC36 v_p1_heats h
    · replace h := h.2 c
      refine g_aload_n 10 X dX1_coolDown_10 1 rfl rfl ?_
      refine g_get 11 X fa_X1_29 dX1_coolDown_11 1 rfl rfl ?_
      refine g_iload_n 14 X dX1_coolDown_14 2 rfl rfl ?_
      refine g_dup2 15 X dX1_coolDown_15 rfl rfl ?_
      have f2 := h.1; replace h := h.2
      refine g_iald 16 X dX1_coolDown_16 2 rfl rfl f2 ?_
      refine g_aload_n 17 X dX1_coolDown_17 1 rfl rfl ?_
      refine g_get 18 X fa_X1_29 dX1_coolDown_18 1 rfl rfl ?_
      refine g_iload_n 21 X dX1_coolDown_21 2 rfl rfl ?_
      refine g_iald 22 X dX1_coolDown_22 2 rfl rfl f2 ?_
      refine g_aload_n 23 X dX1_coolDown_23 0 rfl rfl ?_
      refine g_get 24 X fa_X1_19 dX1_coolDown_24 0 rfl rfl ?_
      refine g_ishr 27 X dX1_coolDown_27 ?_
      refine g_isub 28 X dX1_coolDown_28 ?_
      refine g_iast 29 X (W_X1_coolDown (g_env Γ) h0 h1 h2 o0 o1 o2 o3 o4 o5 o6 o7 o8 o9 o10 o11 o12 o13 o14 o15 v_z_dots v_z_cool (upd v_p1_heats (Int32.toNatClampNeg x2) ((v_p1_heats (Int32.toNatClampNeg x2)) - ((v_p1_heats (Int32.toNatClampNeg x2)) >>> (v_z_cool &&& (31 : Int32)))))) dX1_coolDown_29 2 rfl rfl f2 rfl ?_
      refine g_iinc 30 X (x2 + (1 : Int32)) [(2, .int (x2 + (1 : Int32))), (0, .ref h0), (1, .ref h1)] dX1_coolDown_30 2 rfl (k_ii_1 _) (Nat.le_of_ble_eq_true rfl) rfl ?_
      refine g_goto 33 X 2 dX1_coolDown_33 (by decide) ?_
      refine g_sub [(0, .ref h0), (1, .ref h1), (2, .int (x2 + (1 : Int32)))] [1, 2, 0] rfl ?_
      exact ih (x2 + (1 : Int32)) (upd v_p1_heats (Int32.toNatClampNeg x2) ((v_p1_heats (Int32.toNatClampNeg x2)) - ((v_p1_heats (Int32.toNatClampNeg x2)) >>> (v_z_cool &&& (31 : Int32))))) h
set_option maxHeartbeats 4000000 in
set_option maxRecDepth 100000 in
theorem c_X1_coolDown {l : Launch} {E : g_E} (h0 : Nat) (h1 : Nat) (h2 : Nat) (o0 o1 o2 o3 o4 o5 o6 o7 o8 o9 o10 o11 o12 o13 o14 o15 : Value) (v_z_dots : Int32) (v_z_cool : Int32) (v_p1_heats : Nat → Int32) {K : (Nat → Int32) → Prop} (h : P_X1_coolDown v_z_dots v_z_cool v_p1_heats K) : g_CV l E yX1_coolDown cX1_coolDown 3 (g_Rm 0 0) [.ref h0, .ref h1] (W_X1_coolDown E h0 h1 h2 o0 o1 o2 o3 o4 o5 o6 o7 o8 o9 o10 o11 o12 o13 o14 o15 v_z_dots v_z_cool v_p1_heats) (fun (u : (Nat → Int32)) => K u) (fun (u : (Nat → Int32)) => (W_X1_coolDown E h0 h1 h2 o0 o1 o2 o3 o4 o5 o6 o7 o8 o9 o10 o11 o12 o13 o14 o15 v_z_dots v_z_cool u)) := by
  refine g_entV RX1 (by decide) rfl (Nat.le_of_ble_eq_true rfl) ?_
  intro Γ X hE hl ret
  subst hE
  subst hl
  unfold P_X1_coolDown at h
  show g_G Γ (g_Rm 0 0) 3 0 [(0, .ref h0), (1, .ref h1)] [] (W_X1_coolDown (g_env Γ) h0 h1 h2 o0 o1 o2 o3 o4 o5 o6 o7 o8 o9 o10 o11 o12 o13 o14 o15 v_z_dots v_z_cool v_p1_heats)
  refine g_iconst 0 X (0 : Int32) dX1_coolDown_0 k_ic_0 ?_
  refine g_istore_n 1 X [(2, .int (0 : Int32)), (0, .ref h0), (1, .ref h1)] dX1_coolDown_1 rfl (Nat.le_of_ble_eq_true rfl) rfl ?_
  obtain ⟨n4, h⟩ := h
  refine g_sub [(0, .ref h0), (1, .ref h1), (2, .int (0 : Int32))] [1, 2, 0] rfl ?_
  refine l_X1_coolDown_2 X h0 h1 h2 o0 o1 o2 o3 o4 o5 o6 o7 o8 o9 o10 o11 o12 o13 o14 o15 v_z_dots v_z_cool (fun v_p1_heats_3 h => ?_) n4 (0 : Int32) v_p1_heats h
  · exact ret 36 _ (v_p1_heats_3) dX1_coolDown_36 h

def W_X1_rest (E : g_E) (h0 : Nat) (h1 : Nat) (h2 : Nat) (o0 o1 o2 o3 o4 o5 o6 o7 o8 o9 o10 o11 o12 o13 o14 o15 : Value) (v_z_dots : Int32) (v_z_cool : Int32) (v_p1_heats : Nat → Int32) : va_W := [(h0, .inr (1, [o0, .int v_z_dots, .int v_z_cool, o1, o2, o3, o4])), (h1, .inr (5, [.ref h2, o5, o6, o7, o8, o9, o10, o11, o12, o13, o14, o15])), (h2, .inl (E.2.1, 8, .inl v_p1_heats))]
def P_X1_rest_L2 (v_z_dots : Int32) (v_z_cool : Int32) (x2 : Int32) (C18 : (Nat → Int32) → Prop) : Nat → Int32 → (Nat → Int32) → Prop
  | 0, _, _ => False
  | n + 1, x3, v_p1_heats => ((x2 ≤ x3 → C18 v_p1_heats) ∧ (¬ x2 ≤ x3 → (P_X1_coolDown v_z_dots v_z_cool v_p1_heats (fun v_p1_heats_1 => P_X1_rest_L2 v_z_dots v_z_cool x2 C18 n (x3 + (1 : Int32)) v_p1_heats_1))))
def P_X1_rest (b2 : Int32) (v_z_dots : Int32) (v_z_cool : Int32) (v_p1_heats : Nat → Int32) (K : (Nat → Int32) → Prop) : Prop := (∃ ne : Nat, P_X1_rest_L2 v_z_dots v_z_cool b2 (fun v_p1_heats_3 => K v_p1_heats_3) ne (0 : Int32) v_p1_heats)
set_option maxHeartbeats 4000000 in
set_option maxRecDepth 100000 in
theorem l_X1_rest_2 {Γ : g_C} (X : g_X Γ (g_Rm 1 22) cX1_rest RX1 4) (h0 : Nat) (h1 : Nat) (h2 : Nat) (o0 o1 o2 o3 o4 o5 o6 o7 o8 o9 o10 o11 o12 o13 o14 o15 : Value) (v_z_dots : Int32) (v_z_cool : Int32) (x2 : Int32) {C18 : (Nat → Int32) → Prop} (hC18 : ∀ (v_p1_heats : Nat → Int32), C18 v_p1_heats → g_G Γ (g_Rm 1 22) 4 18 [] [] (W_X1_rest (g_env Γ) h0 h1 h2 o0 o1 o2 o3 o4 o5 o6 o7 o8 o9 o10 o11 o12 o13 o14 o15 v_z_dots v_z_cool v_p1_heats)) : ∀ (n : Nat) (x3 : Int32) (v_p1_heats : Nat → Int32), P_X1_rest_L2 v_z_dots v_z_cool x2 C18 n x3 v_p1_heats → g_G Γ (g_Rm 1 22) 4 2 [(0, .ref h0), (1, .ref h1), (2, .int x2), (3, .int x3)] [] (W_X1_rest (g_env Γ) h0 h1 h2 o0 o1 o2 o3 o4 o5 o6 o7 o8 o9 o10 o11 o12 o13 o14 o15 v_z_dots v_z_cool v_p1_heats) := by
  intro n
  induction n with
  | zero => intro x3 v_p1_heats h; exact False.elim h
  | succ n ih =>
    intro x3 v_p1_heats h
    unfold P_X1_rest_L2 at h
    refine g_iload_n 2 X dX1_rest_2 3 rfl rfl ?_
    refine g_iload_n 3 X dX1_rest_3 2 rfl rfl ?_
    refine g_icmp_ge 4 X 18 dX1_rest_4 (by decide) (fun c => ?_) (fun c => ?_)
    · replace h := h.1 c
      refine g_sub [] [] rfl ?_
      exact hC18 v_p1_heats h
    · replace h := h.2 c
      refine g_aload_n 7 X dX1_rest_7 0 rfl rfl ?_
      refine g_aload_n 8 X dX1_rest_8 1 rfl rfl ?_
      refine g_cVV 9 X (st := []) mv_X1_34 dX1_rest_9 h0 1 [.ref h1] (c_X1_coolDown h0 h1 h2 o0 o1 o2 o3 o4 o5 o6 o7 o8 o9 o10 o11 o12 o13 o14 o15 v_z_dots v_z_cool v_p1_heats h) [0, 1, 2] (fun u : (Nat → Int32) => (W_X1_rest (g_env Γ) h0 h1 h2 o0 o1 o2 o3 o4 o5 o6 o7 o8 o9 o10 o11 o12 o13 o14 o15 v_z_dots v_z_cool u)) rfl ⟨(Nat.le_of_ble_eq_true rfl), (Nat.le_of_ble_eq_true rfl)⟩ ⟨rfl, rfl⟩ (Nat.le_of_ble_eq_true rfl) rfl rfl rfl (by decide) (fun _ => rfl) (fun _ => rfl) (fun u h => ?_)
      obtain ⟨v_p1_heats_2, rfl⟩ : ∃ z, z = u := ⟨_, rfl⟩
      refine g_iinc 12 X (x3 + (1 : Int32)) [(3, .int (x3 + (1 : Int32))), (0, .ref h0), (1, .ref h1), (2, .int x2)] dX1_rest_12 3 rfl (k_ii_1 _) (Nat.le_of_ble_eq_true rfl) rfl ?_
      refine g_goto 15 X 2 dX1_rest_15 (by decide) ?_
      refine g_sub [(0, .ref h0), (1, .ref h1), (2, .int x2), (3, .int (x3 + (1 : Int32)))] [1, 2, 3, 0] rfl ?_
      exact ih (x3 + (1 : Int32)) v_p1_heats_2 h
set_option maxHeartbeats 4000000 in
set_option maxRecDepth 100000 in
theorem c_X1_rest {l : Launch} {E : g_E} (h0 : Nat) (h1 : Nat) (h2 : Nat) (o0 o1 o2 o3 o4 o5 o6 o7 o8 o9 o10 o11 o12 o13 o14 o15 : Value) (v_z_dots : Int32) (v_z_cool : Int32) (v_p1_heats : Nat → Int32) (b2 : Int32) {K : (Nat → Int32) → Prop} (h : P_X1_rest b2 v_z_dots v_z_cool v_p1_heats K) : g_CV l E yX1_rest cX1_rest 4 (g_Rm 1 22) [.ref h0, .ref h1, .int b2] (W_X1_rest E h0 h1 h2 o0 o1 o2 o3 o4 o5 o6 o7 o8 o9 o10 o11 o12 o13 o14 o15 v_z_dots v_z_cool v_p1_heats) (fun (u : (Nat → Int32)) => K u) (fun (u : (Nat → Int32)) => (W_X1_rest E h0 h1 h2 o0 o1 o2 o3 o4 o5 o6 o7 o8 o9 o10 o11 o12 o13 o14 o15 v_z_dots v_z_cool u)) := by
  refine g_entV RX1 (by decide) rfl (Nat.le_of_ble_eq_true rfl) ?_
  intro Γ X hE hl ret
  subst hE
  subst hl
  unfold P_X1_rest at h
  show g_G Γ (g_Rm 1 22) 4 0 [(0, .ref h0), (1, .ref h1), (2, .int b2)] [] (W_X1_rest (g_env Γ) h0 h1 h2 o0 o1 o2 o3 o4 o5 o6 o7 o8 o9 o10 o11 o12 o13 o14 o15 v_z_dots v_z_cool v_p1_heats)
  refine g_iconst 0 X (0 : Int32) dX1_rest_0 k_ic_0 ?_
  refine g_istore_n 1 X [(3, .int (0 : Int32)), (0, .ref h0), (1, .ref h1), (2, .int b2)] dX1_rest_1 rfl (Nat.le_of_ble_eq_true rfl) rfl ?_
  obtain ⟨n4, h⟩ := h
  refine g_sub [(0, .ref h0), (1, .ref h1), (2, .int b2), (3, .int (0 : Int32))] [1, 2, 3, 0] rfl ?_
  refine l_X1_rest_2 X h0 h1 h2 o0 o1 o2 o3 o4 o5 o6 o7 o8 o9 o10 o11 o12 o13 o14 o15 v_z_dots v_z_cool b2 (fun v_p1_heats_3 h => ?_) n4 (0 : Int32) v_p1_heats h
  · exact ret 18 _ (v_p1_heats_3) dX1_rest_18 h

def W_X5_dropFirst (E : g_E) (h0 : Nat) (h1 : Nat) (o0 o1 o2 o3 o4 o5 o6 o7 o8 o9 : Value) (v_z_queued : Int32) (v_queue : Nat → Int32) : va_W := [(h0, .inr (5, [o0, o1, .ref h1, .int v_z_queued, o2, o3, o4, o5, o6, o7, o8, o9])), (h1, .inl (E.2.1, 8, .inl v_queue))]
def P_X5_dropFirst_L2 (v_z_queued : Int32) (C30 : (Nat → Int32) → Prop) : Nat → Int32 → (Nat → Int32) → Prop
  | 0, _, _ => False
  | n + 1, x1, v_queue => ((v_z_queued ≤ x1 → C30 v_queue) ∧ (¬ v_z_queued ≤ x1 → (vp_in x1 8 ∧ (vp_in (x1 - (1 : Int32)) 8 ∧ P_X5_dropFirst_L2 v_z_queued C30 n (x1 + (1 : Int32)) (upd v_queue (Int32.toNatClampNeg (x1 - (1 : Int32))) (v_queue (Int32.toNatClampNeg x1)))))))
def P_X5_dropFirst (v_z_queued : Int32) (v_queue : Nat → Int32) (K : Int32 → (Nat → Int32) → Prop) : Prop := (∃ ne : Nat, P_X5_dropFirst_L2 v_z_queued (fun v_queue_5 => K (if (0 : Int32) < (v_z_queued - (1 : Int32)) then (v_z_queued - (1 : Int32)) else (0 : Int32)) v_queue_5) ne (1 : Int32) v_queue)
set_option maxHeartbeats 4000000 in
set_option maxRecDepth 100000 in
theorem l_X5_dropFirst_2 {Γ : g_C} (X : g_X Γ (g_Rm 1 24) cX5_dropFirst RX5 2) (h0 : Nat) (h1 : Nat) (o0 o1 o2 o3 o4 o5 o6 o7 o8 o9 : Value) (v_z_queued : Int32) {C30 : (Nat → Int32) → Prop} (hC30 : ∀ (v_queue : Nat → Int32), C30 v_queue → g_G Γ (g_Rm 1 24) 2 30 [(0, .ref h0)] [] (W_X5_dropFirst (g_env Γ) h0 h1 o0 o1 o2 o3 o4 o5 o6 o7 o8 o9 v_z_queued v_queue)) : ∀ (n : Nat) (x1 : Int32) (v_queue : Nat → Int32), P_X5_dropFirst_L2 v_z_queued C30 n x1 v_queue → g_G Γ (g_Rm 1 24) 2 2 [(0, .ref h0), (1, .int x1)] [] (W_X5_dropFirst (g_env Γ) h0 h1 o0 o1 o2 o3 o4 o5 o6 o7 o8 o9 v_z_queued v_queue) := by
  intro n
  induction n with
  | zero => intro x1 v_queue h; exact False.elim h
  | succ n ih =>
    intro x1 v_queue h
    unfold P_X5_dropFirst_L2 at h
    refine g_iload_n 2 X dX5_dropFirst_2 1 rfl rfl ?_
    refine g_aload_n 3 X dX5_dropFirst_3 0 rfl rfl ?_
    refine g_get 4 X fa_X5_27 dX5_dropFirst_4 0 rfl rfl ?_
    refine g_icmp_ge 7 X 30 dX5_dropFirst_7 (by decide) (fun c => ?_) (fun c => ?_)
    · replace h := h.1 c
      refine g_sub [(0, .ref h0)] [0] rfl ?_
      exact hC30 v_queue h
    · replace h := h.2 c
      refine g_aload_n 10 X dX5_dropFirst_10 0 rfl rfl ?_
      refine g_get 11 X fa_X5_18 dX5_dropFirst_11 0 rfl rfl ?_
      refine g_iload_n 14 X dX5_dropFirst_14 1 rfl rfl ?_
      refine g_iconst 15 X (1 : Int32) dX5_dropFirst_15 k_ic_1 ?_
      refine g_isub 16 X dX5_dropFirst_16 ?_
      refine g_aload_n 17 X dX5_dropFirst_17 0 rfl rfl ?_
      refine g_get 18 X fa_X5_18 dX5_dropFirst_18 0 rfl rfl ?_
      refine g_iload_n 21 X dX5_dropFirst_21 1 rfl rfl ?_
      have f3 := h.1; replace h := h.2
      refine g_iald 22 X dX5_dropFirst_22 1 rfl rfl f3 ?_
      have f4 := h.1; replace h := h.2
      refine g_iast 23 X (W_X5_dropFirst (g_env Γ) h0 h1 o0 o1 o2 o3 o4 o5 o6 o7 o8 o9 v_z_queued (upd v_queue (Int32.toNatClampNeg (x1 - (1 : Int32))) (v_queue (Int32.toNatClampNeg x1)))) dX5_dropFirst_23 1 rfl rfl f4 rfl ?_
      refine g_iinc 24 X (x1 + (1 : Int32)) [(1, .int (x1 + (1 : Int32))), (0, .ref h0)] dX5_dropFirst_24 1 rfl (k_ii_1 _) (Nat.le_of_ble_eq_true rfl) rfl ?_
      refine g_goto 27 X 2 dX5_dropFirst_27 (by decide) ?_
      refine g_sub [(0, .ref h0), (1, .int (x1 + (1 : Int32)))] [1, 0] rfl ?_
      exact ih (x1 + (1 : Int32)) (upd v_queue (Int32.toNatClampNeg (x1 - (1 : Int32))) (v_queue (Int32.toNatClampNeg x1))) h
set_option maxHeartbeats 4000000 in
set_option maxRecDepth 100000 in
theorem c_X5_dropFirst {l : Launch} {E : g_E} (h0 : Nat) (h1 : Nat) (o0 o1 o2 o3 o4 o5 o6 o7 o8 o9 : Value) (v_z_queued : Int32) (v_queue : Nat → Int32) {K : Int32 → (Nat → Int32) → Prop} (h : P_X5_dropFirst v_z_queued v_queue K) : g_CV l E yX5_dropFirst cX5_dropFirst 2 (g_Rm 1 24) [.ref h0] (W_X5_dropFirst E h0 h1 o0 o1 o2 o3 o4 o5 o6 o7 o8 o9 v_z_queued v_queue) (fun (u : Int32 × (Nat → Int32)) => K u.1 u.2) (fun (u : Int32 × (Nat → Int32)) => (W_X5_dropFirst E h0 h1 o0 o1 o2 o3 o4 o5 o6 o7 o8 o9 u.1 u.2)) := by
  refine g_entV RX5 (by decide) rfl (Nat.le_of_ble_eq_true rfl) ?_
  intro Γ X hE hl ret
  subst hE
  subst hl
  unfold P_X5_dropFirst at h
  show g_G Γ (g_Rm 1 24) 2 0 [(0, .ref h0)] [] (W_X5_dropFirst (g_env Γ) h0 h1 o0 o1 o2 o3 o4 o5 o6 o7 o8 o9 v_z_queued v_queue)
  refine g_iconst 0 X (1 : Int32) dX5_dropFirst_0 k_ic_1 ?_
  refine g_istore_n 1 X [(1, .int (1 : Int32)), (0, .ref h0)] dX5_dropFirst_1 rfl (Nat.le_of_ble_eq_true rfl) rfl ?_
  obtain ⟨n6, h⟩ := h
  refine g_sub [(0, .ref h0), (1, .int (1 : Int32))] [1, 0] rfl ?_
  refine l_X5_dropFirst_2 X h0 h1 o0 o1 o2 o3 o4 o5 o6 o7 o8 o9 v_z_queued (fun v_queue_5 h => ?_) n6 (1 : Int32) v_queue h
  · refine g_aload_n 30 X dX5_dropFirst_30 0 rfl rfl ?_
    refine g_iconst 31 X (0 : Int32) dX5_dropFirst_31 k_ic_0 ?_
    refine g_aload_n 32 X dX5_dropFirst_32 0 rfl rfl ?_
    refine g_get 33 X fa_X5_27 dX5_dropFirst_33 0 rfl rfl ?_
    refine g_iconst 36 X (1 : Int32) dX5_dropFirst_36 k_ic_1 ?_
    refine g_isub 37 X dX5_dropFirst_37 ?_
    refine g_mmax 38 X dX5_dropFirst_38 ml_X5_55 (Nat.le_of_ble_eq_true rfl) (Nat.le_of_ble_eq_true rfl) ?_
    refine g_put 41 X (W_X5_dropFirst (g_env Γ) h0 h1 o0 o1 o2 o3 o4 o5 o6 o7 o8 o9 (if (0 : Int32) < (v_z_queued - (1 : Int32)) then (v_z_queued - (1 : Int32)) else (0 : Int32)) v_queue_5) fa_X5_27 pa_5_3 dX5_dropFirst_41 0 rfl rfl rfl (Nat.le_of_ble_eq_true rfl) rfl ?_
    exact ret 44 _ ((if (0 : Int32) < (v_z_queued - (1 : Int32)) then (v_z_queued - (1 : Int32)) else (0 : Int32)), v_queue_5) dX5_dropFirst_44 h

def W_X7_bit (E : g_E) : va_W := []
def P_X7_bit (b0 : Int32) (b1 : Int32) (K : Int32 → Prop) : Prop := K ((b0 >>> (b1 &&& (31 : Int32))) &&& (1 : Int32))
set_option maxHeartbeats 4000000 in
set_option maxRecDepth 100000 in
theorem c_X7_bit {l : Launch} {E : g_E} (b0 : Int32) (b1 : Int32) {K : Int32 → Prop} (h : P_X7_bit b0 b1 K) : g_CI l E yX7_bit cX7_bit 2 .int (g_Rm 0 0) [.int b0, .int b1] (W_X7_bit E) (fun r (u : Unit) => K r) (fun (u : Unit) => (W_X7_bit E)) := by
  refine g_entI RX7 (by decide) rfl (Nat.le_of_ble_eq_true rfl) ?_
  intro Γ X hE hl ret
  subst hE
  subst hl
  unfold P_X7_bit at h
  show g_G Γ (g_Rm 0 0) 2 0 [(0, .int b0), (1, .int b1)] [] (W_X7_bit (g_env Γ))
  refine g_iload_n 0 X dX7_bit_0 0 rfl rfl ?_
  refine g_iload_n 1 X dX7_bit_1 1 rfl rfl ?_
  refine g_ishr 2 X dX7_bit_2 ?_
  refine g_iconst 3 X (1 : Int32) dX7_bit_3 k_ic_1 ?_
  refine g_iand 4 X dX7_bit_4 ?_
  exact ret 5 _ _ () dX7_bit_5 (vp_nar_int _) h

def W_X1_findPulses (E : g_E) (h0 : Nat) (h1 : Nat) (h2 : Nat) (o0 o1 o2 o3 o4 : Value) (v_z_dots : Int32) (v_pulses : Nat → Int32) (v_p1 : Nat → Int32) : va_W := [(h0, .inr (1, [.ref h1, .int v_z_dots, o0, o1, o2, o3, o4])), (h1, .inl (E.2.1, 8, .inl v_pulses)), (h2, .inl (E.2.1, 5, .inl v_p1))]
def P_X1_findPulses_L3 (v_z_dots : Int32) (v_p1 : Nat → Int32) (x2 : Int32) (x3 : Int32) (x4 : Int32) (C81 : (Nat → Int32) → Prop) : Nat → Int32 → (Nat → Int32) → Prop
  | 0, _, _ => False
  | n + 1, x5, v_pulses => ((v_z_dots ≤ x5 → C81 v_pulses) ∧ (¬ v_z_dots ≤ x5 → (vp_in x5 8 ∧ (P_X7_bit x2 x5 (fun r2 => ((¬ r2 = (1 : Int32) → P_X1_findPulses_L3 v_z_dots v_p1 x2 x3 x4 C81 n (x5 + (1 : Int32)) (upd v_pulses (Int32.toNatClampNeg x5) (0 : Int32))) ∧ (r2 = (1 : Int32) → (P_X7_bit (x2 <<< ((1 : Int32) &&& (31 : Int32))) x5 (fun r3 => (P_X7_bit (x2 >>> ((1 : Int32) &&& (31 : Int32))) x5 (fun r4 => (P_X7_bit x3 x5 (fun r5 => (P_X7_bit x4 x5 (fun r6 => (vp_in (((r3 + r4) + r5) + r6) 5 ∧ P_X1_findPulses_L3 v_z_dots v_p1 x2 x3 x4 C81 n (x5 + (1 : Int32)) (upd (upd v_pulses (Int32.toNatClampNeg x5) (0 : Int32)) (Int32.toNatClampNeg x5) (v_p1 (Int32.toNatClampNeg (((r3 + r4) + r5) + r6))))))))))))))))))))
def P_X1_findPulses (b2 : Int32) (b3 : Int32) (b4 : Int32) (v_z_dots : Int32) (v_pulses : Nat → Int32) (v_p1 : Nat → Int32) (K : (Nat → Int32) → Prop) : Prop := (∃ ne : Nat, P_X1_findPulses_L3 v_z_dots v_p1 b2 b3 b4 (fun v_pulses_15 => K v_pulses_15) ne (0 : Int32) v_pulses)
set_option maxHeartbeats 4000000 in
set_option maxRecDepth 100000 in
theorem l_X1_findPulses_3 {Γ : g_C} (X : g_X Γ (g_Rm 1 21) cX1_findPulses RX1 7) (h0 : Nat) (h1 : Nat) (h2 : Nat) (o0 o1 o2 o3 o4 : Value) (v_z_dots : Int32) (v_p1 : Nat → Int32) (x2 : Int32) (x3 : Int32) (x4 : Int32) {C81 : (Nat → Int32) → Prop} (hC81 : ∀ (v_pulses : Nat → Int32), C81 v_pulses → g_G Γ (g_Rm 1 21) 7 81 [] [] (W_X1_findPulses (g_env Γ) h0 h1 h2 o0 o1 o2 o3 o4 v_z_dots v_pulses v_p1)) : ∀ (n : Nat) (x5 : Int32) (v_pulses : Nat → Int32), P_X1_findPulses_L3 v_z_dots v_p1 x2 x3 x4 C81 n x5 v_pulses → g_G Γ (g_Rm 1 21) 7 3 [(0, .ref h0), (1, .ref h2), (2, .int x2), (3, .int x3), (4, .int x4), (5, .int x5)] [] (W_X1_findPulses (g_env Γ) h0 h1 h2 o0 o1 o2 o3 o4 v_z_dots v_pulses v_p1) := by
  intro n
  induction n with
  | zero => intro x5 v_pulses h; exact False.elim h
  | succ n ih =>
    intro x5 v_pulses h
    unfold P_X1_findPulses_L3 at h
    refine g_iload 3 X dX1_findPulses_3 5 rfl ?_
    refine g_aload_n 5 X dX1_findPulses_5 0 rfl rfl ?_
    refine g_get 6 X fa_X1_15 dX1_findPulses_6 0 rfl rfl ?_
    refine g_icmp_ge 9 X 81 dX1_findPulses_9 (by decide) (fun c => ?_) (fun c => ?_)
    · replace h := h.1 c
      refine g_sub [] [] rfl ?_
      exact hC81 v_pulses h
    · replace h := h.2 c
      refine g_aload_n 12 X dX1_findPulses_12 0 rfl rfl ?_
      refine g_get 13 X fa_X1_9 dX1_findPulses_13 0 rfl rfl ?_
      refine g_iload 16 X dX1_findPulses_16 5 rfl ?_
      refine g_iconst 18 X (0 : Int32) dX1_findPulses_18 k_ic_0 ?_
      have f8 := h.1; replace h := h.2
      refine g_iast 19 X (W_X1_findPulses (g_env Γ) h0 h1 h2 o0 o1 o2 o3 o4 v_z_dots (upd v_pulses (Int32.toNatClampNeg x5) (0 : Int32)) v_p1) dX1_findPulses_19 1 rfl rfl f8 rfl ?_
      refine g_iload_n 20 X dX1_findPulses_20 2 rfl rfl ?_
      refine g_iload 21 X dX1_findPulses_21 5 rfl ?_
      refine g_cNI 23 X (st := []) mv_X1_78 dX1_findPulses_23 [.int x2, .int x5] (c_X7_bit x2 x5 h) [] (fun u : Unit => (W_X1_findPulses (g_env Γ) h0 h1 h2 o0 o1 o2 o3 o4 v_z_dots (upd v_pulses (Int32.toNatClampNeg x5) (0 : Int32)) v_p1)) rfl ⟨(Nat.le_of_ble_eq_true rfl), (Nat.le_of_ble_eq_true rfl)⟩ ⟨rfl, rfl⟩ (Nat.le_of_ble_eq_true rfl) rfl (by decide) (fun _ => rfl) (fun _ => rfl) (fun r9 u h => ?_)
      refine g_iconst 26 X (1 : Int32) dX1_findPulses_26 k_ic_1 ?_
      refine g_icmp_ne 27 X 75 dX1_findPulses_27 (by decide) (fun c => ?_) (fun c => ?_)
      · replace h := h.1 c
        refine g_iinc 75 X (x5 + (1 : Int32)) [(5, .int (x5 + (1 : Int32))), (0, .ref h0), (1, .ref h2), (2, .int x2), (3, .int x3), (4, .int x4)] dX1_findPulses_75 5 rfl (k_ii_1 _) (Nat.le_of_ble_eq_true rfl) rfl ?_
        refine g_goto 78 X 3 dX1_findPulses_78 (by decide) ?_
        refine g_sub [(0, .ref h0), (1, .ref h2), (2, .int x2), (3, .int x3), (4, .int x4), (5, .int (x5 + (1 : Int32)))] [1, 2, 3, 4, 5, 0] rfl ?_
        exact ih (x5 + (1 : Int32)) (upd v_pulses (Int32.toNatClampNeg x5) (0 : Int32)) h
      · replace h := h.2 c
        refine g_iload_n 30 X dX1_findPulses_30 2 rfl rfl ?_
        refine g_iconst 31 X (1 : Int32) dX1_findPulses_31 k_ic_1 ?_
        refine g_ishl 32 X dX1_findPulses_32 ?_
        refine g_iload 33 X dX1_findPulses_33 5 rfl ?_
        refine g_cNI 35 X (st := []) mv_X1_78 dX1_findPulses_35 [.int (x2 <<< ((1 : Int32) &&& (31 : Int32))), .int x5] (c_X7_bit (x2 <<< ((1 : Int32) &&& (31 : Int32))) x5 h) [] (fun u : Unit => (W_X1_findPulses (g_env Γ) h0 h1 h2 o0 o1 o2 o3 o4 v_z_dots (upd v_pulses (Int32.toNatClampNeg x5) (0 : Int32)) v_p1)) rfl ⟨(Nat.le_of_ble_eq_true rfl), (Nat.le_of_ble_eq_true rfl)⟩ ⟨rfl, rfl⟩ (Nat.le_of_ble_eq_true rfl) rfl (by decide) (fun _ => rfl) (fun _ => rfl) (fun r10 u h => ?_)
        refine g_iload_n 38 X dX1_findPulses_38 2 rfl rfl ?_
        refine g_iconst 39 X (1 : Int32) dX1_findPulses_39 k_ic_1 ?_
        refine g_ishr 40 X dX1_findPulses_40 ?_
        refine g_iload 41 X dX1_findPulses_41 5 rfl ?_
        refine g_cNI 43 X (st := [.int r10]) mv_X1_78 dX1_findPulses_43 [.int (x2 >>> ((1 : Int32) &&& (31 : Int32))), .int x5] (c_X7_bit (x2 >>> ((1 : Int32) &&& (31 : Int32))) x5 h) [] (fun u : Unit => (W_X1_findPulses (g_env Γ) h0 h1 h2 o0 o1 o2 o3 o4 v_z_dots (upd v_pulses (Int32.toNatClampNeg x5) (0 : Int32)) v_p1)) rfl ⟨(Nat.le_of_ble_eq_true rfl), (Nat.le_of_ble_eq_true rfl)⟩ ⟨rfl, rfl⟩ (Nat.le_of_ble_eq_true rfl) rfl (by decide) (fun _ => rfl) (fun _ => rfl) (fun r11 u h => ?_)
        refine g_iadd 46 X dX1_findPulses_46 ?_
        refine g_iload_n 47 X dX1_findPulses_47 3 rfl rfl ?_
        refine g_iload 48 X dX1_findPulses_48 5 rfl ?_
        refine g_cNI 50 X (st := [.int (r10 + r11)]) mv_X1_78 dX1_findPulses_50 [.int x3, .int x5] (c_X7_bit x3 x5 h) [] (fun u : Unit => (W_X1_findPulses (g_env Γ) h0 h1 h2 o0 o1 o2 o3 o4 v_z_dots (upd v_pulses (Int32.toNatClampNeg x5) (0 : Int32)) v_p1)) rfl ⟨(Nat.le_of_ble_eq_true rfl), (Nat.le_of_ble_eq_true rfl)⟩ ⟨rfl, rfl⟩ (Nat.le_of_ble_eq_true rfl) rfl (by decide) (fun _ => rfl) (fun _ => rfl) (fun r12 u h => ?_)
        refine g_iadd 53 X dX1_findPulses_53 ?_
        refine g_iload 54 X dX1_findPulses_54 4 rfl ?_
        refine g_iload 56 X dX1_findPulses_56 5 rfl ?_
        refine g_cNI 58 X (st := [.int ((r10 + r11) + r12)]) mv_X1_78 dX1_findPulses_58 [.int x4, .int x5] (c_X7_bit x4 x5 h) [] (fun u : Unit => (W_X1_findPulses (g_env Γ) h0 h1 h2 o0 o1 o2 o3 o4 v_z_dots (upd v_pulses (Int32.toNatClampNeg x5) (0 : Int32)) v_p1)) rfl ⟨(Nat.le_of_ble_eq_true rfl), (Nat.le_of_ble_eq_true rfl)⟩ ⟨rfl, rfl⟩ (Nat.le_of_ble_eq_true rfl) rfl (by decide) (fun _ => rfl) (fun _ => rfl) (fun r13 u h => ?_)
        refine g_iadd 61 X dX1_findPulses_61 ?_
        refine g_istore 62 X [(6, .int (((r10 + r11) + r12) + r13)), (0, .ref h0), (1, .ref h2), (2, .int x2), (3, .int x3), (4, .int x4), (5, .int x5)] dX1_findPulses_62 (Nat.le_of_ble_eq_true rfl) rfl ?_
        refine g_aload_n 64 X dX1_findPulses_64 1 rfl rfl ?_
        refine g_get 65 X fa_X1_9 dX1_findPulses_65 0 rfl rfl ?_
        refine g_iload 68 X dX1_findPulses_68 6 rfl ?_
        refine g_aload_n 70 X dX1_findPulses_70 2 rfl rfl ?_
        refine g_iload 71 X dX1_findPulses_71 0 rfl ?_
        have f14 := h.1; replace h := h.2
        refine g_iald 73 X dX1_findPulses_73 2 rfl rfl f14 ?_
        refine g_iast 74 X (W_X1_findPulses (g_env Γ) h0 h1 h2 o0 o1 o2 o3 o4 v_z_dots (upd (upd v_pulses (Int32.toNatClampNeg x5) (0 : Int32)) (Int32.toNatClampNeg x5) (v_p1 (Int32.toNatClampNeg (((r10 + r11) + r12) + r13)))) v_p1) dX1_findPulses_74 1 rfl rfl f8 rfl ?_
        refine g_iinc 75 X (x5 + (1 : Int32)) [(5, .int (x5 + (1 : Int32))), (6, .int (((r10 + r11) + r12) + r13)), (0, .ref h0), (1, .ref h2), (2, .int x2), (3, .int x3), (4, .int x4)] dX1_findPulses_75 6 rfl (k_ii_1 _) (Nat.le_of_ble_eq_true rfl) rfl ?_
        refine g_goto 78 X 3 dX1_findPulses_78 (by decide) ?_
        refine g_sub [(0, .ref h0), (1, .ref h2), (2, .int x2), (3, .int x3), (4, .int x4), (5, .int (x5 + (1 : Int32)))] [2, 3, 4, 5, 6, 0] rfl ?_
        exact ih (x5 + (1 : Int32)) (upd (upd v_pulses (Int32.toNatClampNeg x5) (0 : Int32)) (Int32.toNatClampNeg x5) (v_p1 (Int32.toNatClampNeg (((r10 + r11) + r12) + r13)))) h
set_option maxHeartbeats 4000000 in
set_option maxRecDepth 100000 in
theorem c_X1_findPulses {l : Launch} {E : g_E} (h0 : Nat) (h1 : Nat) (h2 : Nat) (o0 o1 o2 o3 o4 : Value) (v_z_dots : Int32) (v_pulses : Nat → Int32) (v_p1 : Nat → Int32) (b2 : Int32) (b3 : Int32) (b4 : Int32) {K : (Nat → Int32) → Prop} (h : P_X1_findPulses b2 b3 b4 v_z_dots v_pulses v_p1 K) : g_CV l E yX1_findPulses cX1_findPulses 7 (g_Rm 1 21) [.ref h0, .ref h2, .int b2, .int b3, .int b4] (W_X1_findPulses E h0 h1 h2 o0 o1 o2 o3 o4 v_z_dots v_pulses v_p1) (fun (u : (Nat → Int32)) => K u) (fun (u : (Nat → Int32)) => (W_X1_findPulses E h0 h1 h2 o0 o1 o2 o3 o4 v_z_dots u v_p1)) := by
  refine g_entV RX1 (by decide) rfl (Nat.le_of_ble_eq_true rfl) ?_
  intro Γ X hE hl ret
  subst hE
  subst hl
  unfold P_X1_findPulses at h
  show g_G Γ (g_Rm 1 21) 7 0 [(0, .ref h0), (1, .ref h2), (2, .int b2), (3, .int b3), (4, .int b4)] [] (W_X1_findPulses (g_env Γ) h0 h1 h2 o0 o1 o2 o3 o4 v_z_dots v_pulses v_p1)
  refine g_iconst 0 X (0 : Int32) dX1_findPulses_0 k_ic_0 ?_
  refine g_istore 1 X [(5, .int (0 : Int32)), (0, .ref h0), (1, .ref h2), (2, .int b2), (3, .int b3), (4, .int b4)] dX1_findPulses_1 (Nat.le_of_ble_eq_true rfl) rfl ?_
  obtain ⟨n16, h⟩ := h
  refine g_sub [(0, .ref h0), (1, .ref h2), (2, .int b2), (3, .int b3), (4, .int b4), (5, .int (0 : Int32))] [1, 2, 3, 4, 5, 0] rfl ?_
  refine l_X1_findPulses_3 X h0 h1 h2 o0 o1 o2 o3 o4 v_z_dots v_p1 b2 b3 b4 (fun v_pulses_15 h => ?_) n16 (0 : Int32) v_pulses h
  · exact ret 81 _ (v_pulses_15) dX1_findPulses_81 h

def W_X1_heatUp (E : g_E) (h0 : Nat) (h1 : Nat) (h2 : Nat) (o0 o1 o2 o3 o4 : Value) (v_z_dots : Int32) (v_pulses : Nat → Int32) (v_p1 : Nat → Int32) : va_W := [(h0, .inr (1, [.ref h1, .int v_z_dots, o0, o1, o2, o3, o4])), (h1, .inl (E.2.1, 8, .inl v_pulses)), (h2, .inl (E.2.1, 8, .inl v_p1))]
def P_X1_heatUp_L2 (v_z_dots : Int32) (v_pulses : Nat → Int32) (x2 : Int32) (C86 : (Nat → Int32) → Prop) : Nat → Int32 → (Nat → Int32) → Prop
  | 0, _, _ => False
  | n + 1, x3, v_p1 => ((v_z_dots ≤ x3 → C86 v_p1) ∧ (¬ v_z_dots ≤ x3 → (P_X7_bit x2 x3 (fun r1 => ((¬ r1 = (1 : Int32) → P_X1_heatUp_L2 v_z_dots v_pulses x2 C86 n (x3 + (1 : Int32)) v_p1) ∧ (r1 = (1 : Int32) → (vp_in x3 8 ∧ ((x3 ≤ (0 : Int32) → ((v_z_dots ≤ (x3 + (1 : Int32)) → P_X1_heatUp_L2 v_z_dots v_pulses x2 C86 n (x3 + (1 : Int32)) (upd v_p1 (Int32.toNatClampNeg x3) ((v_p1 (Int32.toNatClampNeg x3)) + ((10 : Int32) * (v_pulses (Int32.toNatClampNeg x3)))))) ∧ (¬ v_z_dots ≤ (x3 + (1 : Int32)) → (vp_in (x3 + (1 : Int32)) 8 ∧ P_X1_heatUp_L2 v_z_dots v_pulses x2 C86 n (x3 + (1 : Int32)) (upd (upd v_p1 (Int32.toNatClampNeg x3) ((v_p1 (Int32.toNatClampNeg x3)) + ((10 : Int32) * (v_pulses (Int32.toNatClampNeg x3))))) (Int32.toNatClampNeg (x3 + (1 : Int32))) (((upd v_p1 (Int32.toNatClampNeg x3) ((v_p1 (Int32.toNatClampNeg x3)) + ((10 : Int32) * (v_pulses (Int32.toNatClampNeg x3))))) (Int32.toNatClampNeg (x3 + (1 : Int32)))) + ((2 : Int32) * (v_pulses (Int32.toNatClampNeg x3))))))))) ∧ (¬ x3 ≤ (0 : Int32) → (vp_in (x3 - (1 : Int32)) 8 ∧ ((v_z_dots ≤ (x3 + (1 : Int32)) → P_X1_heatUp_L2 v_z_dots v_pulses x2 C86 n (x3 + (1 : Int32)) (upd (upd v_p1 (Int32.toNatClampNeg x3) ((v_p1 (Int32.toNatClampNeg x3)) + ((10 : Int32) * (v_pulses (Int32.toNatClampNeg x3))))) (Int32.toNatClampNeg (x3 - (1 : Int32))) (((upd v_p1 (Int32.toNatClampNeg x3) ((v_p1 (Int32.toNatClampNeg x3)) + ((10 : Int32) * (v_pulses (Int32.toNatClampNeg x3))))) (Int32.toNatClampNeg (x3 - (1 : Int32)))) + ((2 : Int32) * (v_pulses (Int32.toNatClampNeg x3)))))) ∧ (¬ v_z_dots ≤ (x3 + (1 : Int32)) → (vp_in (x3 + (1 : Int32)) 8 ∧ P_X1_heatUp_L2 v_z_dots v_pulses x2 C86 n (x3 + (1 : Int32)) (upd (upd (upd v_p1 (Int32.toNatClampNeg x3) ((v_p1 (Int32.toNatClampNeg x3)) + ((10 : Int32) * (v_pulses (Int32.toNatClampNeg x3))))) (Int32.toNatClampNeg (x3 - (1 : Int32))) (((upd v_p1 (Int32.toNatClampNeg x3) ((v_p1 (Int32.toNatClampNeg x3)) + ((10 : Int32) * (v_pulses (Int32.toNatClampNeg x3))))) (Int32.toNatClampNeg (x3 - (1 : Int32)))) + ((2 : Int32) * (v_pulses (Int32.toNatClampNeg x3))))) (Int32.toNatClampNeg (x3 + (1 : Int32))) (((upd (upd v_p1 (Int32.toNatClampNeg x3) ((v_p1 (Int32.toNatClampNeg x3)) + ((10 : Int32) * (v_pulses (Int32.toNatClampNeg x3))))) (Int32.toNatClampNeg (x3 - (1 : Int32))) (((upd v_p1 (Int32.toNatClampNeg x3) ((v_p1 (Int32.toNatClampNeg x3)) + ((10 : Int32) * (v_pulses (Int32.toNatClampNeg x3))))) (Int32.toNatClampNeg (x3 - (1 : Int32)))) + ((2 : Int32) * (v_pulses (Int32.toNatClampNeg x3))))) (Int32.toNatClampNeg (x3 + (1 : Int32)))) + ((2 : Int32) * (v_pulses (Int32.toNatClampNeg x3))))))))))))))))))
def P_X1_heatUp_L88 (v_z_dots : Int32) (C114 : (Nat → Int32) → Prop) : Nat → Int32 → (Nat → Int32) → Prop
  | 0, _, _ => False
  | n + 1, x3, v_p1 => ((v_z_dots ≤ x3 → C114 v_p1) ∧ (¬ v_z_dots ≤ x3 → (vp_in x3 8 ∧ P_X1_heatUp_L88 v_z_dots C114 n (x3 + (1 : Int32)) (upd v_p1 (Int32.toNatClampNeg x3) (if (v_p1 (Int32.toNatClampNeg x3)) < (999 : Int32) then (v_p1 (Int32.toNatClampNeg x3)) else (999 : Int32))))))
def P_X1_heatUp (b2 : Int32) (v_z_dots : Int32) (v_pulses : Nat → Int32) (v_p1 : Nat → Int32) (K : (Nat → Int32) → Prop) : Prop := (∃ ne : Nat, P_X1_heatUp_L2 v_z_dots v_pulses b2 (fun v_p1_11 => (∃ ne : Nat, P_X1_heatUp_L88 v_z_dots (fun v_p1_14 => K v_p1_14) ne (0 : Int32) v_p1_11)) ne (0 : Int32) v_p1)
set_option maxHeartbeats 4000000 in
set_option maxRecDepth 100000 in
theorem l_X1_heatUp_2 {Γ : g_C} (X : g_X Γ (g_Rm 1 24) cX1_heatUp RX1 4) (h0 : Nat) (h1 : Nat) (h2 : Nat) (o0 o1 o2 o3 o4 : Value) (v_z_dots : Int32) (v_pulses : Nat → Int32) (x2 : Int32) {C86 : (Nat → Int32) → Prop} (hC86 : ∀ (v_p1 : Nat → Int32), C86 v_p1 → g_G Γ (g_Rm 1 24) 4 86 [(0, .ref h0), (1, .ref h2)] [] (W_X1_heatUp (g_env Γ) h0 h1 h2 o0 o1 o2 o3 o4 v_z_dots v_pulses v_p1)) : ∀ (n : Nat) (x3 : Int32) (v_p1 : Nat → Int32), P_X1_heatUp_L2 v_z_dots v_pulses x2 C86 n x3 v_p1 → g_G Γ (g_Rm 1 24) 4 2 [(0, .ref h0), (1, .ref h2), (2, .int x2), (3, .int x3)] [] (W_X1_heatUp (g_env Γ) h0 h1 h2 o0 o1 o2 o3 o4 v_z_dots v_pulses v_p1) := by
  intro n
  induction n with
  | zero => intro x3 v_p1 h; exact False.elim h
  | succ n ih =>
    intro x3 v_p1 h
    unfold P_X1_heatUp_L2 at h
    refine g_iload_n 2 X dX1_heatUp_2 3 rfl rfl ?_
    refine g_aload_n 3 X dX1_heatUp_3 0 rfl rfl ?_
    refine g_get 4 X fa_X1_15 dX1_heatUp_4 0 rfl rfl ?_
    refine g_icmp_ge 7 X 86 dX1_heatUp_7 (by decide) (fun c => ?_) (fun c => ?_)
    · replace h := h.1 c
      refine g_sub [(0, .ref h0), (1, .ref h2)] [0, 1] rfl ?_
      exact hC86 v_p1 h
    · replace h := h.2 c
      refine g_iload_n 10 X dX1_heatUp_10 2 rfl rfl ?_
      refine g_iload_n 11 X dX1_heatUp_11 3 rfl rfl ?_
      refine g_cNI 12 X (st := []) mv_X1_78 dX1_heatUp_12 [.int x2, .int x3] (c_X7_bit x2 x3 h) [] (fun u : Unit => (W_X1_heatUp (g_env Γ) h0 h1 h2 o0 o1 o2 o3 o4 v_z_dots v_pulses v_p1)) rfl ⟨(Nat.le_of_ble_eq_true rfl), (Nat.le_of_ble_eq_true rfl)⟩ ⟨rfl, rfl⟩ (Nat.le_of_ble_eq_true rfl) rfl (by decide) (fun _ => rfl) (fun _ => rfl) (fun r6 u h => ?_)
      refine g_iconst 15 X (1 : Int32) dX1_heatUp_15 k_ic_1 ?_
      refine g_icmp_ne 16 X 80 dX1_heatUp_16 (by decide) (fun c => ?_) (fun c => ?_)
      · replace h := h.1 c
        refine g_iinc 80 X (x3 + (1 : Int32)) [(3, .int (x3 + (1 : Int32))), (0, .ref h0), (1, .ref h2), (2, .int x2)] dX1_heatUp_80 3 rfl (k_ii_1 _) (Nat.le_of_ble_eq_true rfl) rfl ?_
        refine g_goto 83 X 2 dX1_heatUp_83 (by decide) ?_
        refine g_sub [(0, .ref h0), (1, .ref h2), (2, .int x2), (3, .int (x3 + (1 : Int32)))] [1, 2, 3, 0] rfl ?_
        exact ih (x3 + (1 : Int32)) v_p1 h
      · replace h := h.2 c
        refine g_aload_n 19 X dX1_heatUp_19 1 rfl rfl ?_
        refine g_iload_n 20 X dX1_heatUp_20 3 rfl rfl ?_
        refine g_dup2 21 X dX1_heatUp_21 rfl rfl ?_
        have f7 := h.1; replace h := h.2
        refine g_iald 22 X dX1_heatUp_22 2 rfl rfl f7 ?_
        refine g_bipush 23 X (10 : Int32) dX1_heatUp_23 k_bp_10 ?_
        refine g_aload_n 25 X dX1_heatUp_25 0 rfl rfl ?_
        refine g_get 26 X fa_X1_9 dX1_heatUp_26 0 rfl rfl ?_
        refine g_iload_n 29 X dX1_heatUp_29 3 rfl rfl ?_
        refine g_iald 30 X dX1_heatUp_30 1 rfl rfl f7 ?_
        refine g_imul 31 X dX1_heatUp_31 ?_
        refine g_iadd 32 X dX1_heatUp_32 ?_
        refine g_iast 33 X (W_X1_heatUp (g_env Γ) h0 h1 h2 o0 o1 o2 o3 o4 v_z_dots v_pulses (upd v_p1 (Int32.toNatClampNeg x3) ((v_p1 (Int32.toNatClampNeg x3)) + ((10 : Int32) * (v_pulses (Int32.toNatClampNeg x3)))))) dX1_heatUp_33 2 rfl rfl f7 rfl ?_
        refine g_iload_n 34 X dX1_heatUp_34 3 rfl rfl ?_
        refine g_if_le 35 X 54 dX1_heatUp_35 (by decide) (fun c => ?_) (fun c => ?_)
        · replace h := h.1 c
          refine g_iload_n 54 X dX1_heatUp_54 3 rfl rfl ?_
          refine g_iconst 55 X (1 : Int32) dX1_heatUp_55 k_ic_1 ?_
          refine g_iadd 56 X dX1_heatUp_56 ?_
          refine g_aload_n 57 X dX1_heatUp_57 0 rfl rfl ?_
          refine g_get 58 X fa_X1_15 dX1_heatUp_58 0 rfl rfl ?_
          refine g_icmp_ge 61 X 80 dX1_heatUp_61 (by decide) (fun c => ?_) (fun c => ?_)
          · replace h := h.1 c
            refine g_iinc 80 X (x3 + (1 : Int32)) [(3, .int (x3 + (1 : Int32))), (0, .ref h0), (1, .ref h2), (2, .int x2)] dX1_heatUp_80 3 rfl (k_ii_1 _) (Nat.le_of_ble_eq_true rfl) rfl ?_
            refine g_goto 83 X 2 dX1_heatUp_83 (by decide) ?_
            refine g_sub [(0, .ref h0), (1, .ref h2), (2, .int x2), (3, .int (x3 + (1 : Int32)))] [1, 2, 3, 0] rfl ?_
            exact ih (x3 + (1 : Int32)) (upd v_p1 (Int32.toNatClampNeg x3) ((v_p1 (Int32.toNatClampNeg x3)) + ((10 : Int32) * (v_pulses (Int32.toNatClampNeg x3))))) h
          · replace h := h.2 c
            refine g_aload_n 64 X dX1_heatUp_64 1 rfl rfl ?_
            refine g_iload_n 65 X dX1_heatUp_65 3 rfl rfl ?_
            refine g_iconst 66 X (1 : Int32) dX1_heatUp_66 k_ic_1 ?_
            refine g_iadd 67 X dX1_heatUp_67 ?_
            refine g_dup2 68 X dX1_heatUp_68 rfl rfl ?_
            have f8 := h.1; replace h := h.2
            refine g_iald 69 X dX1_heatUp_69 2 rfl rfl f8 ?_
            refine g_iconst 70 X (2 : Int32) dX1_heatUp_70 k_ic_2 ?_
            refine g_aload_n 71 X dX1_heatUp_71 0 rfl rfl ?_
            refine g_get 72 X fa_X1_9 dX1_heatUp_72 0 rfl rfl ?_
            refine g_iload_n 75 X dX1_heatUp_75 3 rfl rfl ?_
            refine g_iald 76 X dX1_heatUp_76 1 rfl rfl f7 ?_
            refine g_imul 77 X dX1_heatUp_77 ?_
            refine g_iadd 78 X dX1_heatUp_78 ?_
            refine g_iast 79 X (W_X1_heatUp (g_env Γ) h0 h1 h2 o0 o1 o2 o3 o4 v_z_dots v_pulses (upd (upd v_p1 (Int32.toNatClampNeg x3) ((v_p1 (Int32.toNatClampNeg x3)) + ((10 : Int32) * (v_pulses (Int32.toNatClampNeg x3))))) (Int32.toNatClampNeg (x3 + (1 : Int32))) (((upd v_p1 (Int32.toNatClampNeg x3) ((v_p1 (Int32.toNatClampNeg x3)) + ((10 : Int32) * (v_pulses (Int32.toNatClampNeg x3))))) (Int32.toNatClampNeg (x3 + (1 : Int32)))) + ((2 : Int32) * (v_pulses (Int32.toNatClampNeg x3)))))) dX1_heatUp_79 2 rfl rfl f8 rfl ?_
            refine g_iinc 80 X (x3 + (1 : Int32)) [(3, .int (x3 + (1 : Int32))), (0, .ref h0), (1, .ref h2), (2, .int x2)] dX1_heatUp_80 3 rfl (k_ii_1 _) (Nat.le_of_ble_eq_true rfl) rfl ?_
            refine g_goto 83 X 2 dX1_heatUp_83 (by decide) ?_
            refine g_sub [(0, .ref h0), (1, .ref h2), (2, .int x2), (3, .int (x3 + (1 : Int32)))] [1, 2, 3, 0] rfl ?_
            exact ih (x3 + (1 : Int32)) (upd (upd v_p1 (Int32.toNatClampNeg x3) ((v_p1 (Int32.toNatClampNeg x3)) + ((10 : Int32) * (v_pulses (Int32.toNatClampNeg x3))))) (Int32.toNatClampNeg (x3 + (1 : Int32))) (((upd v_p1 (Int32.toNatClampNeg x3) ((v_p1 (Int32.toNatClampNeg x3)) + ((10 : Int32) * (v_pulses (Int32.toNatClampNeg x3))))) (Int32.toNatClampNeg (x3 + (1 : Int32)))) + ((2 : Int32) * (v_pulses (Int32.toNatClampNeg x3))))) h
        · replace h := h.2 c
          refine g_aload_n 38 X dX1_heatUp_38 1 rfl rfl ?_
          refine g_iload_n 39 X dX1_heatUp_39 3 rfl rfl ?_
          refine g_iconst 40 X (1 : Int32) dX1_heatUp_40 k_ic_1 ?_
          refine g_isub 41 X dX1_heatUp_41 ?_
          refine g_dup2 42 X dX1_heatUp_42 rfl rfl ?_
          have f9 := h.1; replace h := h.2
          refine g_iald 43 X dX1_heatUp_43 2 rfl rfl f9 ?_
          refine g_iconst 44 X (2 : Int32) dX1_heatUp_44 k_ic_2 ?_
          refine g_aload_n 45 X dX1_heatUp_45 0 rfl rfl ?_
          refine g_get 46 X fa_X1_9 dX1_heatUp_46 0 rfl rfl ?_
          refine g_iload_n 49 X dX1_heatUp_49 3 rfl rfl ?_
          refine g_iald 50 X dX1_heatUp_50 1 rfl rfl f7 ?_
          refine g_imul 51 X dX1_heatUp_51 ?_
          refine g_iadd 52 X dX1_heatUp_52 ?_
          refine g_iast 53 X (W_X1_heatUp (g_env Γ) h0 h1 h2 o0 o1 o2 o3 o4 v_z_dots v_pulses (upd (upd v_p1 (Int32.toNatClampNeg x3) ((v_p1 (Int32.toNatClampNeg x3)) + ((10 : Int32) * (v_pulses (Int32.toNatClampNeg x3))))) (Int32.toNatClampNeg (x3 - (1 : Int32))) (((upd v_p1 (Int32.toNatClampNeg x3) ((v_p1 (Int32.toNatClampNeg x3)) + ((10 : Int32) * (v_pulses (Int32.toNatClampNeg x3))))) (Int32.toNatClampNeg (x3 - (1 : Int32)))) + ((2 : Int32) * (v_pulses (Int32.toNatClampNeg x3)))))) dX1_heatUp_53 2 rfl rfl f9 rfl ?_
          refine g_iload_n 54 X dX1_heatUp_54 3 rfl rfl ?_
          refine g_iconst 55 X (1 : Int32) dX1_heatUp_55 k_ic_1 ?_
          refine g_iadd 56 X dX1_heatUp_56 ?_
          refine g_aload_n 57 X dX1_heatUp_57 0 rfl rfl ?_
          refine g_get 58 X fa_X1_15 dX1_heatUp_58 0 rfl rfl ?_
          refine g_icmp_ge 61 X 80 dX1_heatUp_61 (by decide) (fun c => ?_) (fun c => ?_)
          · replace h := h.1 c
            refine g_iinc 80 X (x3 + (1 : Int32)) [(3, .int (x3 + (1 : Int32))), (0, .ref h0), (1, .ref h2), (2, .int x2)] dX1_heatUp_80 3 rfl (k_ii_1 _) (Nat.le_of_ble_eq_true rfl) rfl ?_
            refine g_goto 83 X 2 dX1_heatUp_83 (by decide) ?_
            refine g_sub [(0, .ref h0), (1, .ref h2), (2, .int x2), (3, .int (x3 + (1 : Int32)))] [1, 2, 3, 0] rfl ?_
            exact ih (x3 + (1 : Int32)) (upd (upd v_p1 (Int32.toNatClampNeg x3) ((v_p1 (Int32.toNatClampNeg x3)) + ((10 : Int32) * (v_pulses (Int32.toNatClampNeg x3))))) (Int32.toNatClampNeg (x3 - (1 : Int32))) (((upd v_p1 (Int32.toNatClampNeg x3) ((v_p1 (Int32.toNatClampNeg x3)) + ((10 : Int32) * (v_pulses (Int32.toNatClampNeg x3))))) (Int32.toNatClampNeg (x3 - (1 : Int32)))) + ((2 : Int32) * (v_pulses (Int32.toNatClampNeg x3))))) h
          · replace h := h.2 c
            refine g_aload_n 64 X dX1_heatUp_64 1 rfl rfl ?_
            refine g_iload_n 65 X dX1_heatUp_65 3 rfl rfl ?_
            refine g_iconst 66 X (1 : Int32) dX1_heatUp_66 k_ic_1 ?_
            refine g_iadd 67 X dX1_heatUp_67 ?_
            refine g_dup2 68 X dX1_heatUp_68 rfl rfl ?_
            have f10 := h.1; replace h := h.2
            refine g_iald 69 X dX1_heatUp_69 2 rfl rfl f10 ?_
            refine g_iconst 70 X (2 : Int32) dX1_heatUp_70 k_ic_2 ?_
            refine g_aload_n 71 X dX1_heatUp_71 0 rfl rfl ?_
            refine g_get 72 X fa_X1_9 dX1_heatUp_72 0 rfl rfl ?_
            refine g_iload_n 75 X dX1_heatUp_75 3 rfl rfl ?_
            refine g_iald 76 X dX1_heatUp_76 1 rfl rfl f7 ?_
            refine g_imul 77 X dX1_heatUp_77 ?_
            refine g_iadd 78 X dX1_heatUp_78 ?_
            refine g_iast 79 X (W_X1_heatUp (g_env Γ) h0 h1 h2 o0 o1 o2 o3 o4 v_z_dots v_pulses (upd (upd (upd v_p1 (Int32.toNatClampNeg x3) ((v_p1 (Int32.toNatClampNeg x3)) + ((10 : Int32) * (v_pulses (Int32.toNatClampNeg x3))))) (Int32.toNatClampNeg (x3 - (1 : Int32))) (((upd v_p1 (Int32.toNatClampNeg x3) ((v_p1 (Int32.toNatClampNeg x3)) + ((10 : Int32) * (v_pulses (Int32.toNatClampNeg x3))))) (Int32.toNatClampNeg (x3 - (1 : Int32)))) + ((2 : Int32) * (v_pulses (Int32.toNatClampNeg x3))))) (Int32.toNatClampNeg (x3 + (1 : Int32))) (((upd (upd v_p1 (Int32.toNatClampNeg x3) ((v_p1 (Int32.toNatClampNeg x3)) + ((10 : Int32) * (v_pulses (Int32.toNatClampNeg x3))))) (Int32.toNatClampNeg (x3 - (1 : Int32))) (((upd v_p1 (Int32.toNatClampNeg x3) ((v_p1 (Int32.toNatClampNeg x3)) + ((10 : Int32) * (v_pulses (Int32.toNatClampNeg x3))))) (Int32.toNatClampNeg (x3 - (1 : Int32)))) + ((2 : Int32) * (v_pulses (Int32.toNatClampNeg x3))))) (Int32.toNatClampNeg (x3 + (1 : Int32)))) + ((2 : Int32) * (v_pulses (Int32.toNatClampNeg x3)))))) dX1_heatUp_79 2 rfl rfl f10 rfl ?_
            refine g_iinc 80 X (x3 + (1 : Int32)) [(3, .int (x3 + (1 : Int32))), (0, .ref h0), (1, .ref h2), (2, .int x2)] dX1_heatUp_80 3 rfl (k_ii_1 _) (Nat.le_of_ble_eq_true rfl) rfl ?_
            refine g_goto 83 X 2 dX1_heatUp_83 (by decide) ?_
            refine g_sub [(0, .ref h0), (1, .ref h2), (2, .int x2), (3, .int (x3 + (1 : Int32)))] [1, 2, 3, 0] rfl ?_
            exact ih (x3 + (1 : Int32)) (upd (upd (upd v_p1 (Int32.toNatClampNeg x3) ((v_p1 (Int32.toNatClampNeg x3)) + ((10 : Int32) * (v_pulses (Int32.toNatClampNeg x3))))) (Int32.toNatClampNeg (x3 - (1 : Int32))) (((upd v_p1 (Int32.toNatClampNeg x3) ((v_p1 (Int32.toNatClampNeg x3)) + ((10 : Int32) * (v_pulses (Int32.toNatClampNeg x3))))) (Int32.toNatClampNeg (x3 - (1 : Int32)))) + ((2 : Int32) * (v_pulses (Int32.toNatClampNeg x3))))) (Int32.toNatClampNeg (x3 + (1 : Int32))) (((upd (upd v_p1 (Int32.toNatClampNeg x3) ((v_p1 (Int32.toNatClampNeg x3)) + ((10 : Int32) * (v_pulses (Int32.toNatClampNeg x3))))) (Int32.toNatClampNeg (x3 - (1 : Int32))) (((upd v_p1 (Int32.toNatClampNeg x3) ((v_p1 (Int32.toNatClampNeg x3)) + ((10 : Int32) * (v_pulses (Int32.toNatClampNeg x3))))) (Int32.toNatClampNeg (x3 - (1 : Int32)))) + ((2 : Int32) * (v_pulses (Int32.toNatClampNeg x3))))) (Int32.toNatClampNeg (x3 + (1 : Int32)))) + ((2 : Int32) * (v_pulses (Int32.toNatClampNeg x3))))) h
set_option maxHeartbeats 4000000 in
set_option maxRecDepth 100000 in
theorem l_X1_heatUp_88 {Γ : g_C} (X : g_X Γ (g_Rm 1 24) cX1_heatUp RX1 4) (h0 : Nat) (h1 : Nat) (h2 : Nat) (o0 o1 o2 o3 o4 : Value) (v_z_dots : Int32) (v_pulses : Nat → Int32) {C114 : (Nat → Int32) → Prop} (hC114 : ∀ (v_p1 : Nat → Int32), C114 v_p1 → g_G Γ (g_Rm 1 24) 4 114 [] [] (W_X1_heatUp (g_env Γ) h0 h1 h2 o0 o1 o2 o3 o4 v_z_dots v_pulses v_p1)) : ∀ (n : Nat) (x3 : Int32) (v_p1 : Nat → Int32), P_X1_heatUp_L88 v_z_dots C114 n x3 v_p1 → g_G Γ (g_Rm 1 24) 4 88 [(0, .ref h0), (1, .ref h2), (3, .int x3)] [] (W_X1_heatUp (g_env Γ) h0 h1 h2 o0 o1 o2 o3 o4 v_z_dots v_pulses v_p1) := by
  intro n
  induction n with
  | zero => intro x3 v_p1 h; exact False.elim h
  | succ n ih =>
    intro x3 v_p1 h
    unfold P_X1_heatUp_L88 at h
    refine g_iload_n 88 X dX1_heatUp_88 2 rfl rfl ?_
    refine g_aload_n 89 X dX1_heatUp_89 0 rfl rfl ?_
    refine g_get 90 X fa_X1_15 dX1_heatUp_90 0 rfl rfl ?_
    refine g_icmp_ge 93 X 114 dX1_heatUp_93 (by decide) (fun c => ?_) (fun c => ?_)
    · replace h := h.1 c
      refine g_sub [] [] rfl ?_
      exact hC114 v_p1 h
    · replace h := h.2 c
      refine g_aload_n 96 X dX1_heatUp_96 1 rfl rfl ?_
      refine g_iload_n 97 X dX1_heatUp_97 2 rfl rfl ?_
      refine g_sipush 98 X (999 : Int32) dX1_heatUp_98 k_sp_999 ?_
      refine g_aload_n 101 X dX1_heatUp_101 1 rfl rfl ?_
      refine g_iload_n 102 X dX1_heatUp_102 2 rfl rfl ?_
      have f13 := h.1; replace h := h.2
      refine g_iald 103 X dX1_heatUp_103 2 rfl rfl f13 ?_
      refine g_mmin 104 X dX1_heatUp_104 ml_X1_82 (Nat.le_of_ble_eq_true rfl) (Nat.le_of_ble_eq_true rfl) ?_
      refine g_iast 107 X (W_X1_heatUp (g_env Γ) h0 h1 h2 o0 o1 o2 o3 o4 v_z_dots v_pulses (upd v_p1 (Int32.toNatClampNeg x3) (if (v_p1 (Int32.toNatClampNeg x3)) < (999 : Int32) then (v_p1 (Int32.toNatClampNeg x3)) else (999 : Int32)))) dX1_heatUp_107 2 rfl rfl f13 rfl ?_
      refine g_iinc 108 X (x3 + (1 : Int32)) [(3, .int (x3 + (1 : Int32))), (0, .ref h0), (1, .ref h2)] dX1_heatUp_108 2 rfl (k_ii_1 _) (Nat.le_of_ble_eq_true rfl) rfl ?_
      refine g_goto 111 X 88 dX1_heatUp_111 (by decide) ?_
      refine g_sub [(0, .ref h0), (1, .ref h2), (3, .int (x3 + (1 : Int32)))] [1, 2, 0] rfl ?_
      exact ih (x3 + (1 : Int32)) (upd v_p1 (Int32.toNatClampNeg x3) (if (v_p1 (Int32.toNatClampNeg x3)) < (999 : Int32) then (v_p1 (Int32.toNatClampNeg x3)) else (999 : Int32))) h
set_option maxHeartbeats 4000000 in
set_option maxRecDepth 100000 in
theorem c_X1_heatUp {l : Launch} {E : g_E} (h0 : Nat) (h1 : Nat) (h2 : Nat) (o0 o1 o2 o3 o4 : Value) (v_z_dots : Int32) (v_pulses : Nat → Int32) (v_p1 : Nat → Int32) (b2 : Int32) {K : (Nat → Int32) → Prop} (h : P_X1_heatUp b2 v_z_dots v_pulses v_p1 K) : g_CV l E yX1_heatUp cX1_heatUp 4 (g_Rm 1 24) [.ref h0, .ref h2, .int b2] (W_X1_heatUp E h0 h1 h2 o0 o1 o2 o3 o4 v_z_dots v_pulses v_p1) (fun (u : (Nat → Int32)) => K u) (fun (u : (Nat → Int32)) => (W_X1_heatUp E h0 h1 h2 o0 o1 o2 o3 o4 v_z_dots v_pulses u)) := by
  refine g_entV RX1 (by decide) rfl (Nat.le_of_ble_eq_true rfl) ?_
  intro Γ X hE hl ret
  subst hE
  subst hl
  unfold P_X1_heatUp at h
  show g_G Γ (g_Rm 1 24) 4 0 [(0, .ref h0), (1, .ref h2), (2, .int b2)] [] (W_X1_heatUp (g_env Γ) h0 h1 h2 o0 o1 o2 o3 o4 v_z_dots v_pulses v_p1)
  refine g_iconst 0 X (0 : Int32) dX1_heatUp_0 k_ic_0 ?_
  refine g_istore_n 1 X [(3, .int (0 : Int32)), (0, .ref h0), (1, .ref h2), (2, .int b2)] dX1_heatUp_1 rfl (Nat.le_of_ble_eq_true rfl) rfl ?_
  obtain ⟨n16, h⟩ := h
  refine g_sub [(0, .ref h0), (1, .ref h2), (2, .int b2), (3, .int (0 : Int32))] [1, 2, 3, 0] rfl ?_
  refine l_X1_heatUp_2 X h0 h1 h2 o0 o1 o2 o3 o4 v_z_dots v_pulses b2 (fun v_p1_11 h => ?_) n16 (0 : Int32) v_p1 h
  · refine g_iconst 86 X (0 : Int32) dX1_heatUp_86 k_ic_0 ?_
    refine g_istore_n 87 X [(3, .int (0 : Int32)), (0, .ref h0), (1, .ref h2)] dX1_heatUp_87 rfl (Nat.le_of_ble_eq_true rfl) rfl ?_
    obtain ⟨n15, h⟩ := h
    refine g_sub [(0, .ref h0), (1, .ref h2), (3, .int (0 : Int32))] [1, 2, 0] rfl ?_
    refine l_X1_heatUp_88 X h0 h1 h2 o0 o1 o2 o3 o4 v_z_dots v_pulses (fun v_p1_14 h => ?_) n15 (0 : Int32) v_p1_11 h
    · exact ret 114 _ (v_p1_14) dX1_heatUp_114 h

def W_X1_countMarks (E : g_E) (h0 : Nat) (h1 : Nat) (h2 : Nat) (o0 o1 o2 o3 o4 o5 o6 o7 o8 : Value) (v_z_dots : Int32) (v_z_low : Int32) (v_z_high : Int32) (v_z_ghost : Int32) (v_p1_right : Int32) (v_p1_pale : Int32) (v_p1_dark : Int32) (v_p1_ghosts : Int32) (v_p1_printed : Int32) (v_p1_heats : Nat → Int32) : va_W := [(h0, .inr (1, [o0, .int v_z_dots, o1, o2, .int v_z_low, .int v_z_high, .int v_z_ghost])), (h1, .inr (5, [.ref h2, o3, o4, o5, o6, o7, o8, .int v_p1_right, .int v_p1_pale, .int v_p1_dark, .int v_p1_ghosts, .int v_p1_printed])), (h2, .inl (E.2.1, 8, .inl v_p1_heats))]
def P_X1_countMarks_L2 (v_z_dots : Int32) (v_z_low : Int32) (v_z_high : Int32) (v_z_ghost : Int32) (v_p1_heats : Nat → Int32) (x2 : Int32) (C112 : Int32 → Int32 → Int32 → Int32 → Prop) : Nat → Int32 → Int32 → Int32 → Int32 → Int32 → Prop
  | 0, _, _, _, _, _ => False
  | n + 1, x3, v_p1_right, v_p1_pale, v_p1_dark, v_p1_ghosts => ((v_z_dots ≤ x3 → C112 v_p1_right v_p1_pale v_p1_dark v_p1_ghosts) ∧ (¬ v_z_dots ≤ x3 → (vp_in x3 8 ∧ (P_X7_bit x2 x3 (fun r2 => ((¬ r2 = (0 : Int32) → ((v_z_low ≤ (v_p1_heats (Int32.toNatClampNeg x3)) → ((v_z_high < (v_p1_heats (Int32.toNatClampNeg x3)) → P_X1_countMarks_L2 v_z_dots v_z_low v_z_high v_z_ghost v_p1_heats x2 C112 n (x3 + (1 : Int32)) v_p1_right v_p1_pale (v_p1_dark + (1 : Int32)) v_p1_ghosts) ∧ (¬ v_z_high < (v_p1_heats (Int32.toNatClampNeg x3)) → P_X1_countMarks_L2 v_z_dots v_z_low v_z_high v_z_ghost v_p1_heats x2 C112 n (x3 + (1 : Int32)) (v_p1_right + (1 : Int32)) v_p1_pale v_p1_dark v_p1_ghosts))) ∧ (¬ v_z_low ≤ (v_p1_heats (Int32.toNatClampNeg x3)) → P_X1_countMarks_L2 v_z_dots v_z_low v_z_high v_z_ghost v_p1_heats x2 C112 n (x3 + (1 : Int32)) v_p1_right (v_p1_pale + (1 : Int32)) v_p1_dark v_p1_ghosts))) ∧ (r2 = (0 : Int32) → (((v_p1_heats (Int32.toNatClampNeg x3)) ≤ v_z_ghost → P_X1_countMarks_L2 v_z_dots v_z_low v_z_high v_z_ghost v_p1_heats x2 C112 n (x3 + (1 : Int32)) v_p1_right v_p1_pale v_p1_dark (v_p1_ghosts + (0 : Int32))) ∧ (¬ (v_p1_heats (Int32.toNatClampNeg x3)) ≤ v_z_ghost → P_X1_countMarks_L2 v_z_dots v_z_low v_z_high v_z_ghost v_p1_heats x2 C112 n (x3 + (1 : Int32)) v_p1_right v_p1_pale v_p1_dark (v_p1_ghosts + (1 : Int32)))))))))))
def P_X1_countMarks (b2 : Int32) (v_z_dots : Int32) (v_z_low : Int32) (v_z_high : Int32) (v_z_ghost : Int32) (v_p1_right : Int32) (v_p1_pale : Int32) (v_p1_dark : Int32) (v_p1_ghosts : Int32) (v_p1_printed : Int32) (v_p1_heats : Nat → Int32) (K : Int32 → Int32 → Int32 → Int32 → Int32 → Prop) : Prop := (∃ ne : Nat, P_X1_countMarks_L2 v_z_dots v_z_low v_z_high v_z_ghost v_p1_heats b2 (fun v_p1_right_5 v_p1_pale_6 v_p1_dark_7 v_p1_ghosts_8 => K v_p1_right_5 v_p1_pale_6 v_p1_dark_7 v_p1_ghosts_8 (v_p1_printed + (1 : Int32))) ne (0 : Int32) v_p1_right v_p1_pale v_p1_dark v_p1_ghosts)
set_option maxHeartbeats 4000000 in
set_option maxRecDepth 100000 in
theorem l_X1_countMarks_2 {Γ : g_C} (X : g_X Γ (g_Rm 1 21) cX1_countMarks RX1 5) (h0 : Nat) (h1 : Nat) (h2 : Nat) (o0 o1 o2 o3 o4 o5 o6 o7 o8 : Value) (v_z_dots : Int32) (v_z_low : Int32) (v_z_high : Int32) (v_z_ghost : Int32) (v_p1_printed : Int32) (v_p1_heats : Nat → Int32) (x2 : Int32) {C112 : Int32 → Int32 → Int32 → Int32 → Prop} (hC112 : ∀ (v_p1_right : Int32) (v_p1_pale : Int32) (v_p1_dark : Int32) (v_p1_ghosts : Int32), C112 v_p1_right v_p1_pale v_p1_dark v_p1_ghosts → g_G Γ (g_Rm 1 21) 5 112 [(1, .ref h1)] [] (W_X1_countMarks (g_env Γ) h0 h1 h2 o0 o1 o2 o3 o4 o5 o6 o7 o8 v_z_dots v_z_low v_z_high v_z_ghost v_p1_right v_p1_pale v_p1_dark v_p1_ghosts v_p1_printed v_p1_heats)) : ∀ (n : Nat) (x3 : Int32) (v_p1_right : Int32) (v_p1_pale : Int32) (v_p1_dark : Int32) (v_p1_ghosts : Int32), P_X1_countMarks_L2 v_z_dots v_z_low v_z_high v_z_ghost v_p1_heats x2 C112 n x3 v_p1_right v_p1_pale v_p1_dark v_p1_ghosts → g_G Γ (g_Rm 1 21) 5 2 [(0, .ref h0), (1, .ref h1), (2, .int x2), (3, .int x3)] [] (W_X1_countMarks (g_env Γ) h0 h1 h2 o0 o1 o2 o3 o4 o5 o6 o7 o8 v_z_dots v_z_low v_z_high v_z_ghost v_p1_right v_p1_pale v_p1_dark v_p1_ghosts v_p1_printed v_p1_heats) := by
  intro n
  induction n with
  | zero => intro x3 v_p1_right v_p1_pale v_p1_dark v_p1_ghosts h; exact False.elim h
  | succ n ih =>
    intro x3 v_p1_right v_p1_pale v_p1_dark v_p1_ghosts h
    unfold P_X1_countMarks_L2 at h
    refine g_iload_n 2 X dX1_countMarks_2 3 rfl rfl ?_
    refine g_aload_n 3 X dX1_countMarks_3 0 rfl rfl ?_
    refine g_get 4 X fa_X1_15 dX1_countMarks_4 0 rfl rfl ?_
    refine g_icmp_ge 7 X 112 dX1_countMarks_7 (by decide) (fun c => ?_) (fun c => ?_)
    · replace h := h.1 c
      refine g_sub [(1, .ref h1)] [1] rfl ?_
      exact hC112 v_p1_right v_p1_pale v_p1_dark v_p1_ghosts h
    · replace h := h.2 c
      refine g_aload_n 10 X dX1_countMarks_10 1 rfl rfl ?_
      refine g_get 11 X fa_X1_29 dX1_countMarks_11 1 rfl rfl ?_
      refine g_iload_n 14 X dX1_countMarks_14 3 rfl rfl ?_
      have f3 := h.1; replace h := h.2
      refine g_iald 15 X dX1_countMarks_15 2 rfl rfl f3 ?_
      refine g_istore 16 X [(4, .int (v_p1_heats (Int32.toNatClampNeg x3))), (0, .ref h0), (1, .ref h1), (2, .int x2), (3, .int x3)] dX1_countMarks_16 (Nat.le_of_ble_eq_true rfl) rfl ?_
      refine g_iload_n 18 X dX1_countMarks_18 3 rfl rfl ?_
      refine g_iload_n 19 X dX1_countMarks_19 4 rfl rfl ?_
      refine g_cNI 20 X (st := []) mv_X1_78 dX1_countMarks_20 [.int x2, .int x3] (c_X7_bit x2 x3 h) [] (fun u : Unit => (W_X1_countMarks (g_env Γ) h0 h1 h2 o0 o1 o2 o3 o4 o5 o6 o7 o8 v_z_dots v_z_low v_z_high v_z_ghost v_p1_right v_p1_pale v_p1_dark v_p1_ghosts v_p1_printed v_p1_heats)) rfl ⟨(Nat.le_of_ble_eq_true rfl), (Nat.le_of_ble_eq_true rfl)⟩ ⟨rfl, rfl⟩ (Nat.le_of_ble_eq_true rfl) rfl (by decide) (fun _ => rfl) (fun _ => rfl) (fun r4 u h => ?_)
      refine g_if_ne 23 X 52 dX1_countMarks_23 (by decide) (fun c => ?_) (fun c => ?_)
      · replace h := h.1 c
        refine g_iload 52 X dX1_countMarks_52 0 rfl ?_
        refine g_aload_n 54 X dX1_countMarks_54 1 rfl rfl ?_
        refine g_get 55 X fa_X1_93 dX1_countMarks_55 0 rfl rfl ?_
        refine g_icmp_ge 58 X 74 dX1_countMarks_58 (by decide) (fun c => ?_) (fun c => ?_)
        · replace h := h.1 c
          refine g_iload 74 X dX1_countMarks_74 0 rfl ?_
          refine g_aload_n 76 X dX1_countMarks_76 1 rfl rfl ?_
          refine g_get 77 X fa_X1_99 dX1_countMarks_77 0 rfl rfl ?_
          refine g_icmp_gt 80 X 96 dX1_countMarks_80 (by decide) (fun c => ?_) (fun c => ?_)
          · replace h := h.1 c
            refine g_aload_n 96 X dX1_countMarks_96 2 rfl rfl ?_
            refine g_dup 97 X dX1_countMarks_97 rfl ?_
            refine g_get 98 X fa_X1_102 dX1_countMarks_98 1 rfl rfl ?_
            refine g_iconst 101 X (1 : Int32) dX1_countMarks_101 k_ic_1 ?_
            refine g_iadd 102 X dX1_countMarks_102 ?_
            refine g_put 103 X (W_X1_countMarks (g_env Γ) h0 h1 h2 o0 o1 o2 o3 o4 o5 o6 o7 o8 v_z_dots v_z_low v_z_high v_z_ghost v_p1_right v_p1_pale (v_p1_dark + (1 : Int32)) v_p1_ghosts v_p1_printed v_p1_heats) fa_X1_102 pa_5_9 dX1_countMarks_103 1 rfl rfl rfl (Nat.le_of_ble_eq_true rfl) rfl ?_
            refine g_iinc 106 X (x3 + (1 : Int32)) [(3, .int (x3 + (1 : Int32))), (4, .int (v_p1_heats (Int32.toNatClampNeg x3))), (0, .ref h0), (1, .ref h1), (2, .int x2)] dX1_countMarks_106 4 rfl (k_ii_1 _) (Nat.le_of_ble_eq_true rfl) rfl ?_
            refine g_goto 109 X 2 dX1_countMarks_109 (by decide) ?_
            refine g_sub [(0, .ref h0), (1, .ref h1), (2, .int x2), (3, .int (x3 + (1 : Int32)))] [2, 3, 4, 0] rfl ?_
            exact ih (x3 + (1 : Int32)) v_p1_right v_p1_pale (v_p1_dark + (1 : Int32)) v_p1_ghosts h
          · replace h := h.2 c
            refine g_aload_n 83 X dX1_countMarks_83 2 rfl rfl ?_
            refine g_dup 84 X dX1_countMarks_84 rfl ?_
            refine g_get 85 X fa_X1_54 dX1_countMarks_85 1 rfl rfl ?_
            refine g_iconst 88 X (1 : Int32) dX1_countMarks_88 k_ic_1 ?_
            refine g_iadd 89 X dX1_countMarks_89 ?_
            refine g_put 90 X (W_X1_countMarks (g_env Γ) h0 h1 h2 o0 o1 o2 o3 o4 o5 o6 o7 o8 v_z_dots v_z_low v_z_high v_z_ghost (v_p1_right + (1 : Int32)) v_p1_pale v_p1_dark v_p1_ghosts v_p1_printed v_p1_heats) fa_X1_54 pa_5_7 dX1_countMarks_90 1 rfl rfl rfl (Nat.le_of_ble_eq_true rfl) rfl ?_
            refine g_goto 93 X 106 dX1_countMarks_93 (by decide) ?_
            refine g_iinc 106 X (x3 + (1 : Int32)) [(3, .int (x3 + (1 : Int32))), (4, .int (v_p1_heats (Int32.toNatClampNeg x3))), (0, .ref h0), (1, .ref h1), (2, .int x2)] dX1_countMarks_106 4 rfl (k_ii_1 _) (Nat.le_of_ble_eq_true rfl) rfl ?_
            refine g_goto 109 X 2 dX1_countMarks_109 (by decide) ?_
            refine g_sub [(0, .ref h0), (1, .ref h1), (2, .int x2), (3, .int (x3 + (1 : Int32)))] [2, 3, 4, 0] rfl ?_
            exact ih (x3 + (1 : Int32)) (v_p1_right + (1 : Int32)) v_p1_pale v_p1_dark v_p1_ghosts h
        · replace h := h.2 c
          refine g_aload_n 61 X dX1_countMarks_61 2 rfl rfl ?_
          refine g_dup 62 X dX1_countMarks_62 rfl ?_
          refine g_get 63 X fa_X1_96 dX1_countMarks_63 1 rfl rfl ?_
          refine g_iconst 66 X (1 : Int32) dX1_countMarks_66 k_ic_1 ?_
          refine g_iadd 67 X dX1_countMarks_67 ?_
          refine g_put 68 X (W_X1_countMarks (g_env Γ) h0 h1 h2 o0 o1 o2 o3 o4 o5 o6 o7 o8 v_z_dots v_z_low v_z_high v_z_ghost v_p1_right (v_p1_pale + (1 : Int32)) v_p1_dark v_p1_ghosts v_p1_printed v_p1_heats) fa_X1_96 pa_5_8 dX1_countMarks_68 1 rfl rfl rfl (Nat.le_of_ble_eq_true rfl) rfl ?_
          refine g_goto 71 X 106 dX1_countMarks_71 (by decide) ?_
          refine g_iinc 106 X (x3 + (1 : Int32)) [(3, .int (x3 + (1 : Int32))), (4, .int (v_p1_heats (Int32.toNatClampNeg x3))), (0, .ref h0), (1, .ref h1), (2, .int x2)] dX1_countMarks_106 4 rfl (k_ii_1 _) (Nat.le_of_ble_eq_true rfl) rfl ?_
          refine g_goto 109 X 2 dX1_countMarks_109 (by decide) ?_
          refine g_sub [(0, .ref h0), (1, .ref h1), (2, .int x2), (3, .int (x3 + (1 : Int32)))] [2, 3, 4, 0] rfl ?_
          exact ih (x3 + (1 : Int32)) v_p1_right (v_p1_pale + (1 : Int32)) v_p1_dark v_p1_ghosts h
      · replace h := h.2 c
        refine g_aload_n 26 X dX1_countMarks_26 2 rfl rfl ?_
        refine g_dup 27 X dX1_countMarks_27 rfl ?_
        refine g_get 28 X fa_X1_87 dX1_countMarks_28 1 rfl rfl ?_
        refine g_iload 31 X dX1_countMarks_31 0 rfl ?_
        refine g_aload_n 33 X dX1_countMarks_33 1 rfl rfl ?_
        refine g_get 34 X fa_X1_90 dX1_countMarks_34 0 rfl rfl ?_
        refine g_icmp_le 37 X 44 dX1_countMarks_37 (by decide) (fun c => ?_) (fun c => ?_)
        · replace h := h.1 c
          refine g_iconst 44 X (0 : Int32) dX1_countMarks_44 k_ic_0 ?_
          refine g_iadd 45 X dX1_countMarks_45 ?_
          refine g_put 46 X (W_X1_countMarks (g_env Γ) h0 h1 h2 o0 o1 o2 o3 o4 o5 o6 o7 o8 v_z_dots v_z_low v_z_high v_z_ghost v_p1_right v_p1_pale v_p1_dark (v_p1_ghosts + (0 : Int32)) v_p1_printed v_p1_heats) fa_X1_87 pa_5_10 dX1_countMarks_46 1 rfl rfl rfl (Nat.le_of_ble_eq_true rfl) rfl ?_
          refine g_goto 49 X 106 dX1_countMarks_49 (by decide) ?_
          refine g_iinc 106 X (x3 + (1 : Int32)) [(3, .int (x3 + (1 : Int32))), (4, .int (v_p1_heats (Int32.toNatClampNeg x3))), (0, .ref h0), (1, .ref h1), (2, .int x2)] dX1_countMarks_106 4 rfl (k_ii_1 _) (Nat.le_of_ble_eq_true rfl) rfl ?_
          refine g_goto 109 X 2 dX1_countMarks_109 (by decide) ?_
          refine g_sub [(0, .ref h0), (1, .ref h1), (2, .int x2), (3, .int (x3 + (1 : Int32)))] [2, 3, 4, 0] rfl ?_
          exact ih (x3 + (1 : Int32)) v_p1_right v_p1_pale v_p1_dark (v_p1_ghosts + (0 : Int32)) h
        · replace h := h.2 c
          refine g_iconst 40 X (1 : Int32) dX1_countMarks_40 k_ic_1 ?_
          refine g_goto 41 X 45 dX1_countMarks_41 (by decide) ?_
          refine g_iadd 45 X dX1_countMarks_45 ?_
          refine g_put 46 X (W_X1_countMarks (g_env Γ) h0 h1 h2 o0 o1 o2 o3 o4 o5 o6 o7 o8 v_z_dots v_z_low v_z_high v_z_ghost v_p1_right v_p1_pale v_p1_dark (v_p1_ghosts + (1 : Int32)) v_p1_printed v_p1_heats) fa_X1_87 pa_5_10 dX1_countMarks_46 1 rfl rfl rfl (Nat.le_of_ble_eq_true rfl) rfl ?_
          refine g_goto 49 X 106 dX1_countMarks_49 (by decide) ?_
          refine g_iinc 106 X (x3 + (1 : Int32)) [(3, .int (x3 + (1 : Int32))), (4, .int (v_p1_heats (Int32.toNatClampNeg x3))), (0, .ref h0), (1, .ref h1), (2, .int x2)] dX1_countMarks_106 4 rfl (k_ii_1 _) (Nat.le_of_ble_eq_true rfl) rfl ?_
          refine g_goto 109 X 2 dX1_countMarks_109 (by decide) ?_
          refine g_sub [(0, .ref h0), (1, .ref h1), (2, .int x2), (3, .int (x3 + (1 : Int32)))] [2, 3, 4, 0] rfl ?_
          exact ih (x3 + (1 : Int32)) v_p1_right v_p1_pale v_p1_dark (v_p1_ghosts + (1 : Int32)) h
set_option maxHeartbeats 4000000 in
set_option maxRecDepth 100000 in
theorem c_X1_countMarks {l : Launch} {E : g_E} (h0 : Nat) (h1 : Nat) (h2 : Nat) (o0 o1 o2 o3 o4 o5 o6 o7 o8 : Value) (v_z_dots : Int32) (v_z_low : Int32) (v_z_high : Int32) (v_z_ghost : Int32) (v_p1_right : Int32) (v_p1_pale : Int32) (v_p1_dark : Int32) (v_p1_ghosts : Int32) (v_p1_printed : Int32) (v_p1_heats : Nat → Int32) (b2 : Int32) {K : Int32 → Int32 → Int32 → Int32 → Int32 → Prop} (h : P_X1_countMarks b2 v_z_dots v_z_low v_z_high v_z_ghost v_p1_right v_p1_pale v_p1_dark v_p1_ghosts v_p1_printed v_p1_heats K) : g_CV l E yX1_countMarks cX1_countMarks 5 (g_Rm 1 21) [.ref h0, .ref h1, .int b2] (W_X1_countMarks E h0 h1 h2 o0 o1 o2 o3 o4 o5 o6 o7 o8 v_z_dots v_z_low v_z_high v_z_ghost v_p1_right v_p1_pale v_p1_dark v_p1_ghosts v_p1_printed v_p1_heats) (fun (u : Int32 × Int32 × Int32 × Int32 × Int32) => K u.1 u.2.1 u.2.2.1 u.2.2.2.1 u.2.2.2.2) (fun (u : Int32 × Int32 × Int32 × Int32 × Int32) => (W_X1_countMarks E h0 h1 h2 o0 o1 o2 o3 o4 o5 o6 o7 o8 v_z_dots v_z_low v_z_high v_z_ghost u.1 u.2.1 u.2.2.1 u.2.2.2.1 u.2.2.2.2 v_p1_heats)) := by
  refine g_entV RX1 (by decide) rfl (Nat.le_of_ble_eq_true rfl) ?_
  intro Γ X hE hl ret
  subst hE
  subst hl
  unfold P_X1_countMarks at h
  show g_G Γ (g_Rm 1 21) 5 0 [(0, .ref h0), (1, .ref h1), (2, .int b2)] [] (W_X1_countMarks (g_env Γ) h0 h1 h2 o0 o1 o2 o3 o4 o5 o6 o7 o8 v_z_dots v_z_low v_z_high v_z_ghost v_p1_right v_p1_pale v_p1_dark v_p1_ghosts v_p1_printed v_p1_heats)
  refine g_iconst 0 X (0 : Int32) dX1_countMarks_0 k_ic_0 ?_
  refine g_istore_n 1 X [(3, .int (0 : Int32)), (0, .ref h0), (1, .ref h1), (2, .int b2)] dX1_countMarks_1 rfl (Nat.le_of_ble_eq_true rfl) rfl ?_
  obtain ⟨n9, h⟩ := h
  refine g_sub [(0, .ref h0), (1, .ref h1), (2, .int b2), (3, .int (0 : Int32))] [1, 2, 3, 0] rfl ?_
  refine l_X1_countMarks_2 X h0 h1 h2 o0 o1 o2 o3 o4 o5 o6 o7 o8 v_z_dots v_z_low v_z_high v_z_ghost v_p1_printed v_p1_heats b2 (fun v_p1_right_5 v_p1_pale_6 v_p1_dark_7 v_p1_ghosts_8 h => ?_) n9 (0 : Int32) v_p1_right v_p1_pale v_p1_dark v_p1_ghosts h
  · refine g_aload_n 112 X dX1_countMarks_112 0 rfl rfl ?_
    refine g_dup 113 X dX1_countMarks_113 rfl ?_
    refine g_get 114 X fa_X1_105 dX1_countMarks_114 1 rfl rfl ?_
    refine g_iconst 117 X (1 : Int32) dX1_countMarks_117 k_ic_1 ?_
    refine g_iadd 118 X dX1_countMarks_118 ?_
    refine g_put 119 X (W_X1_countMarks (g_env Γ) h0 h1 h2 o0 o1 o2 o3 o4 o5 o6 o7 o8 v_z_dots v_z_low v_z_high v_z_ghost v_p1_right_5 v_p1_pale_6 v_p1_dark_7 v_p1_ghosts_8 (v_p1_printed + (1 : Int32)) v_p1_heats) fa_X1_105 pa_5_11 dX1_countMarks_119 1 rfl rfl rfl (Nat.le_of_ble_eq_true rfl) rfl ?_
    exact ret 122 _ (v_p1_right_5, v_p1_pale_6, v_p1_dark_7, v_p1_ghosts_8, (v_p1_printed + (1 : Int32))) dX1_countMarks_122 h

def W_X1_printLine (E : g_E) (h0 : Nat) (h1 : Nat) (h2 : Nat) (h3 : Nat) (h4 : Nat) (o0 o1 o2 o3 : Value) (v_z_dots : Int32) (v_z_cool : Int32) (v_z_low : Int32) (v_z_high : Int32) (v_z_ghost : Int32) (v_pulses : Nat → Int32) (v_p1_last : Int32) (v_p1_before : Int32) (v_p1_right : Int32) (v_p1_pale : Int32) (v_p1_dark : Int32) (v_p1_ghosts : Int32) (v_p1_printed : Int32) (v_p1_heats : Nat → Int32) (v_p1_figures : Nat → Int32) : va_W := [(h0, .inr (1, [.ref h1, .int v_z_dots, .int v_z_cool, o0, .int v_z_low, .int v_z_high, .int v_z_ghost])), (h1, .inl (E.2.1, 8, .inl v_pulses)), (h2, .inr (5, [.ref h3, .ref h4, o1, o2, .int v_p1_last, .int v_p1_before, o3, .int v_p1_right, .int v_p1_pale, .int v_p1_dark, .int v_p1_ghosts, .int v_p1_printed])), (h3, .inl (E.2.1, 8, .inl v_p1_heats)), (h4, .inl (E.2.1, 5, .inl v_p1_figures))]
def P_X1_printLine (b2 : Int32) (b3 : Int32) (v_z_dots : Int32) (v_z_cool : Int32) (v_z_low : Int32) (v_z_high : Int32) (v_z_ghost : Int32) (v_pulses : Nat → Int32) (v_p1_last : Int32) (v_p1_before : Int32) (v_p1_right : Int32) (v_p1_pale : Int32) (v_p1_dark : Int32) (v_p1_ghosts : Int32) (v_p1_printed : Int32) (v_p1_heats : Nat → Int32) (v_p1_figures : Nat → Int32) (K : (Nat → Int32) → Int32 → Int32 → Int32 → Int32 → Int32 → Int32 → Int32 → (Nat → Int32) → Prop) : Prop := (P_X1_coolDown v_z_dots v_z_cool v_p1_heats (fun v_p1_heats_1 => (P_X1_findPulses b2 v_p1_last v_p1_before v_z_dots v_pulses v_p1_figures (fun v_pulses_2 => (P_X1_heatUp (b2 &&& (b3 ^^^ (-1 : Int32))) v_z_dots v_pulses_2 v_p1_heats_1 (fun v_p1_heats_3 => (P_X1_countMarks b2 v_z_dots v_z_low v_z_high v_z_ghost v_p1_right v_p1_pale v_p1_dark v_p1_ghosts v_p1_printed v_p1_heats_3 (fun v_p1_right_4 v_p1_pale_5 v_p1_dark_6 v_p1_ghosts_7 v_p1_printed_8 => K v_pulses_2 b2 v_p1_last v_p1_right_4 v_p1_pale_5 v_p1_dark_6 v_p1_ghosts_7 v_p1_printed_8 v_p1_heats_3))))))))
set_option maxHeartbeats 4000000 in
set_option maxRecDepth 100000 in
theorem c_X1_printLine {l : Launch} {E : g_E} (h0 : Nat) (h1 : Nat) (h2 : Nat) (h3 : Nat) (h4 : Nat) (o0 o1 o2 o3 : Value) (v_z_dots : Int32) (v_z_cool : Int32) (v_z_low : Int32) (v_z_high : Int32) (v_z_ghost : Int32) (v_pulses : Nat → Int32) (v_p1_last : Int32) (v_p1_before : Int32) (v_p1_right : Int32) (v_p1_pale : Int32) (v_p1_dark : Int32) (v_p1_ghosts : Int32) (v_p1_printed : Int32) (v_p1_heats : Nat → Int32) (v_p1_figures : Nat → Int32) (b2 : Int32) (b3 : Int32) {K : (Nat → Int32) → Int32 → Int32 → Int32 → Int32 → Int32 → Int32 → Int32 → (Nat → Int32) → Prop} (h : P_X1_printLine b2 b3 v_z_dots v_z_cool v_z_low v_z_high v_z_ghost v_pulses v_p1_last v_p1_before v_p1_right v_p1_pale v_p1_dark v_p1_ghosts v_p1_printed v_p1_heats v_p1_figures K) : g_CV l E yX1_printLine cX1_printLine 4 (g_Rm 2 47) [.ref h0, .ref h2, .int b2, .int b3] (W_X1_printLine E h0 h1 h2 h3 h4 o0 o1 o2 o3 v_z_dots v_z_cool v_z_low v_z_high v_z_ghost v_pulses v_p1_last v_p1_before v_p1_right v_p1_pale v_p1_dark v_p1_ghosts v_p1_printed v_p1_heats v_p1_figures) (fun (u : (Nat → Int32) × Int32 × Int32 × Int32 × Int32 × Int32 × Int32 × Int32 × (Nat → Int32)) => K u.1 u.2.1 u.2.2.1 u.2.2.2.1 u.2.2.2.2.1 u.2.2.2.2.2.1 u.2.2.2.2.2.2.1 u.2.2.2.2.2.2.2.1 u.2.2.2.2.2.2.2.2) (fun (u : (Nat → Int32) × Int32 × Int32 × Int32 × Int32 × Int32 × Int32 × Int32 × (Nat → Int32)) => (W_X1_printLine E h0 h1 h2 h3 h4 o0 o1 o2 o3 v_z_dots v_z_cool v_z_low v_z_high v_z_ghost u.1 u.2.1 u.2.2.1 u.2.2.2.1 u.2.2.2.2.1 u.2.2.2.2.2.1 u.2.2.2.2.2.2.1 u.2.2.2.2.2.2.2.1 u.2.2.2.2.2.2.2.2 v_p1_figures)) := by
  refine g_entV RX1 (by decide) rfl (Nat.le_of_ble_eq_true rfl) ?_
  intro Γ X hE hl ret
  subst hE
  subst hl
  unfold P_X1_printLine at h
  show g_G Γ (g_Rm 2 47) 4 0 [(0, .ref h0), (1, .ref h2), (2, .int b2), (3, .int b3)] [] (W_X1_printLine (g_env Γ) h0 h1 h2 h3 h4 o0 o1 o2 o3 v_z_dots v_z_cool v_z_low v_z_high v_z_ghost v_pulses v_p1_last v_p1_before v_p1_right v_p1_pale v_p1_dark v_p1_ghosts v_p1_printed v_p1_heats v_p1_figures)
  refine g_aload_n 0 X dX1_printLine_0 0 rfl rfl ?_
  refine g_aload_n 1 X dX1_printLine_1 1 rfl rfl ?_
  refine g_cVV 2 X (st := []) mv_X1_34 dX1_printLine_2 h0 1 [.ref h2] (c_X1_coolDown h0 h2 h3 (.ref h1) o0 (.int v_z_low) (.int v_z_high) (.int v_z_ghost) (.ref h4) o1 o2 (.int v_p1_last) (.int v_p1_before) o3 (.int v_p1_right) (.int v_p1_pale) (.int v_p1_dark) (.int v_p1_ghosts) (.int v_p1_printed) v_z_dots v_z_cool v_p1_heats h) [0, 2, 3] (fun u : (Nat → Int32) => (W_X1_printLine (g_env Γ) h0 h1 h2 h3 h4 o0 o1 o2 o3 v_z_dots v_z_cool v_z_low v_z_high v_z_ghost v_pulses v_p1_last v_p1_before v_p1_right v_p1_pale v_p1_dark v_p1_ghosts v_p1_printed u v_p1_figures)) rfl ⟨(Nat.le_of_ble_eq_true rfl), (Nat.le_of_ble_eq_true rfl)⟩ ⟨rfl, rfl⟩ (Nat.le_of_ble_eq_true rfl) rfl rfl rfl (by decide) (fun _ => rfl) (fun _ => rfl) (fun u h => ?_)
  obtain ⟨v_p1_heats_1, rfl⟩ : ∃ z, z = u := ⟨_, rfl⟩
  refine g_aload_n 5 X dX1_printLine_5 0 rfl rfl ?_
  refine g_aload_n 6 X dX1_printLine_6 1 rfl rfl ?_
  refine g_get 7 X fa_X1_57 dX1_printLine_7 2 rfl rfl ?_
  refine g_iload_n 10 X dX1_printLine_10 2 rfl rfl ?_
  refine g_aload_n 11 X dX1_printLine_11 1 rfl rfl ?_
  refine g_get 12 X fa_X1_60 dX1_printLine_12 2 rfl rfl ?_
  refine g_aload_n 15 X dX1_printLine_15 1 rfl rfl ?_
  refine g_get 16 X fa_X1_63 dX1_printLine_16 2 rfl rfl ?_
  refine g_cVV 19 X (st := []) mv_X1_66 dX1_printLine_19 h0 1 [.ref h4, .int b2, .int v_p1_last, .int v_p1_before] (c_X1_findPulses h0 h1 h4 (.int v_z_cool) o0 (.int v_z_low) (.int v_z_high) (.int v_z_ghost) v_z_dots v_pulses v_p1_figures b2 v_p1_last v_p1_before h) [0, 1, 4] (fun u : (Nat → Int32) => (W_X1_printLine (g_env Γ) h0 h1 h2 h3 h4 o0 o1 o2 o3 v_z_dots v_z_cool v_z_low v_z_high v_z_ghost u v_p1_last v_p1_before v_p1_right v_p1_pale v_p1_dark v_p1_ghosts v_p1_printed v_p1_heats_1 v_p1_figures)) rfl ⟨(Nat.le_of_ble_eq_true rfl), (Nat.le_of_ble_eq_true rfl)⟩ ⟨rfl, rfl⟩ (Nat.le_of_ble_eq_true rfl) rfl rfl rfl (by decide) (fun _ => rfl) (fun _ => rfl) (fun u h => ?_)
  obtain ⟨v_pulses_2, rfl⟩ : ∃ z, z = u := ⟨_, rfl⟩
  refine g_aload_n 22 X dX1_printLine_22 0 rfl rfl ?_
  refine g_aload_n 23 X dX1_printLine_23 1 rfl rfl ?_
  refine g_get 24 X fa_X1_29 dX1_printLine_24 2 rfl rfl ?_
  refine g_iload_n 27 X dX1_printLine_27 2 rfl rfl ?_
  refine g_iload_n 28 X dX1_printLine_28 3 rfl rfl ?_
  refine g_iconst 29 X (-1 : Int32) dX1_printLine_29 k_ic_m1 ?_
  refine g_ixor 30 X dX1_printLine_30 ?_
  refine g_iand 31 X dX1_printLine_31 ?_
  refine g_cVV 32 X (st := []) mv_X1_70 dX1_printLine_32 h0 1 [.ref h3, .int (b2 &&& (b3 ^^^ (-1 : Int32)))] (c_X1_heatUp h0 h1 h3 (.int v_z_cool) o0 (.int v_z_low) (.int v_z_high) (.int v_z_ghost) v_z_dots v_pulses_2 v_p1_heats_1 (b2 &&& (b3 ^^^ (-1 : Int32))) h) [0, 1, 3] (fun u : (Nat → Int32) => (W_X1_printLine (g_env Γ) h0 h1 h2 h3 h4 o0 o1 o2 o3 v_z_dots v_z_cool v_z_low v_z_high v_z_ghost v_pulses_2 v_p1_last v_p1_before v_p1_right v_p1_pale v_p1_dark v_p1_ghosts v_p1_printed u v_p1_figures)) rfl ⟨(Nat.le_of_ble_eq_true rfl), (Nat.le_of_ble_eq_true rfl)⟩ ⟨rfl, rfl⟩ (Nat.le_of_ble_eq_true rfl) rfl rfl rfl (by decide) (fun _ => rfl) (fun _ => rfl) (fun u h => ?_)
  obtain ⟨v_p1_heats_3, rfl⟩ : ∃ z, z = u := ⟨_, rfl⟩
  refine g_aload_n 35 X dX1_printLine_35 0 rfl rfl ?_
  refine g_aload_n 36 X dX1_printLine_36 1 rfl rfl ?_
  refine g_iload_n 37 X dX1_printLine_37 2 rfl rfl ?_
  refine g_cVV 38 X (st := []) mv_X1_74 dX1_printLine_38 h0 1 [.ref h2, .int b2] (c_X1_countMarks h0 h2 h3 (.ref h1) (.int v_z_cool) o0 (.ref h4) o1 o2 (.int v_p1_last) (.int v_p1_before) o3 v_z_dots v_z_low v_z_high v_z_ghost v_p1_right v_p1_pale v_p1_dark v_p1_ghosts v_p1_printed v_p1_heats_3 b2 h) [0, 2, 3] (fun u : Int32 × Int32 × Int32 × Int32 × Int32 => (W_X1_printLine (g_env Γ) h0 h1 h2 h3 h4 o0 o1 o2 o3 v_z_dots v_z_cool v_z_low v_z_high v_z_ghost v_pulses_2 v_p1_last v_p1_before u.1 u.2.1 u.2.2.1 u.2.2.2.1 u.2.2.2.2 v_p1_heats_3 v_p1_figures)) rfl ⟨(Nat.le_of_ble_eq_true rfl), (Nat.le_of_ble_eq_true rfl)⟩ ⟨rfl, rfl⟩ (Nat.le_of_ble_eq_true rfl) rfl rfl rfl (by decide) (fun _ => rfl) (fun _ => rfl) (fun u h => ?_)
  obtain ⟨v_p1_right_4, v_p1_pale_5, v_p1_dark_6, v_p1_ghosts_7, v_p1_printed_8⟩ := u
  dsimp only at h ⊢
  refine g_aload_n 41 X dX1_printLine_41 1 rfl rfl ?_
  refine g_aload_n 42 X dX1_printLine_42 1 rfl rfl ?_
  refine g_get 43 X fa_X1_60 dX1_printLine_43 2 rfl rfl ?_
  refine g_put 46 X (W_X1_printLine (g_env Γ) h0 h1 h2 h3 h4 o0 o1 o2 o3 v_z_dots v_z_cool v_z_low v_z_high v_z_ghost v_pulses_2 v_p1_last v_p1_last v_p1_right_4 v_p1_pale_5 v_p1_dark_6 v_p1_ghosts_7 v_p1_printed_8 v_p1_heats_3 v_p1_figures) fa_X1_63 pa_5_5 dX1_printLine_46 2 rfl rfl rfl (Nat.le_of_ble_eq_true rfl) rfl ?_
  refine g_aload_n 49 X dX1_printLine_49 1 rfl rfl ?_
  refine g_iload_n 50 X dX1_printLine_50 2 rfl rfl ?_
  refine g_put 51 X (W_X1_printLine (g_env Γ) h0 h1 h2 h3 h4 o0 o1 o2 o3 v_z_dots v_z_cool v_z_low v_z_high v_z_ghost v_pulses_2 b2 v_p1_last v_p1_right_4 v_p1_pale_5 v_p1_dark_6 v_p1_ghosts_7 v_p1_printed_8 v_p1_heats_3 v_p1_figures) fa_X1_60 pa_5_4 dX1_printLine_51 2 rfl rfl rfl (Nat.le_of_ble_eq_true rfl) rfl ?_
  exact ret 54 _ (v_pulses_2, b2, v_p1_last, v_p1_right_4, v_p1_pale_5, v_p1_dark_6, v_p1_ghosts_7, v_p1_printed_8, v_p1_heats_3) dX1_printLine_54 h

def W_X1_printSome (E : g_E) (h0 : Nat) (h1 : Nat) (h2 : Nat) (h3 : Nat) (h4 : Nat) (h5 : Nat) (o0 : Value) (v_z_dots : Int32) (v_z_cool : Int32) (v_z_low : Int32) (v_z_high : Int32) (v_z_ghost : Int32) (v_pulses : Nat → Int32) (v_p1_queued : Int32) (v_p1_last : Int32) (v_p1_before : Int32) (v_p1_ribbon : Int32) (v_p1_right : Int32) (v_p1_pale : Int32) (v_p1_dark : Int32) (v_p1_ghosts : Int32) (v_p1_printed : Int32) (v_p1_heats : Nat → Int32) (v_p1_figures : Nat → Int32) (v_p1_queue : Nat → Int32) : va_W := [(h0, .inr (1, [.ref h1, .int v_z_dots, .int v_z_cool, o0, .int v_z_low, .int v_z_high, .int v_z_ghost])), (h1, .inl (E.2.1, 8, .inl v_pulses)), (h2, .inr (5, [.ref h3, .ref h4, .ref h5, .int v_p1_queued, .int v_p1_last, .int v_p1_before, .int v_p1_ribbon, .int v_p1_right, .int v_p1_pale, .int v_p1_dark, .int v_p1_ghosts, .int v_p1_printed])), (h3, .inl (E.2.1, 8, .inl v_p1_heats)), (h4, .inl (E.2.1, 5, .inl v_p1_figures)), (h5, .inl (E.2.1, 8, .inl v_p1_queue))]
def P_X1_printSome_L3 (v_z_dots : Int32) (v_z_cool : Int32) (v_z_low : Int32) (v_z_high : Int32) (v_z_ghost : Int32) (v_p1_figures : Nat → Int32) (x2 : Int32) (x3 : Int32) (C36 : Int32 → (Nat → Int32) → Int32 → Int32 → Int32 → Int32 → Int32 → Int32 → Int32 → Int32 → Int32 → (Nat → Int32) → (Nat → Int32) → Prop) (C72 : (Nat → Int32) → Int32 → Int32 → Int32 → Int32 → Int32 → Int32 → Int32 → Int32 → Int32 → (Nat → Int32) → (Nat → Int32) → Prop) : Nat → Int32 → (Nat → Int32) → Int32 → Int32 → Int32 → Int32 → Int32 → Int32 → Int32 → Int32 → Int32 → (Nat → Int32) → (Nat → Int32) → Prop
  | 0, _, _, _, _, _, _, _, _, _, _, _, _, _ => False
  | n + 1, x4, v_pulses, v_p1_queued, v_p1_last, v_p1_before, v_p1_ribbon, v_p1_right, v_p1_pale, v_p1_dark, v_p1_ghosts, v_p1_printed, v_p1_heats, v_p1_queue => ((x2 ≤ x4 → C72 v_pulses v_p1_queued v_p1_last v_p1_before v_p1_ribbon v_p1_right v_p1_pale v_p1_dark v_p1_ghosts v_p1_printed v_p1_heats v_p1_queue) ∧ (¬ x2 ≤ x4 → ((v_p1_queued = (0 : Int32) → C36 x4 v_pulses v_p1_queued v_p1_last v_p1_before v_p1_ribbon v_p1_right v_p1_pale v_p1_dark v_p1_ghosts v_p1_printed v_p1_heats v_p1_queue) ∧ (¬ v_p1_queued = (0 : Int32) → ((¬ v_p1_ribbon = (0 : Int32) → (P_X5_dropFirst v_p1_queued v_p1_queue (fun v_p1_queued_1 v_p1_queue_2 => (P_X1_printLine (v_p1_queue (Int32.toNatClampNeg (0 : Int32))) x3 v_z_dots v_z_cool v_z_low v_z_high v_z_ghost v_pulses v_p1_last v_p1_before v_p1_right v_p1_pale v_p1_dark v_p1_ghosts v_p1_printed v_p1_heats v_p1_figures (fun v_pulses_3 v_p1_last_4 v_p1_before_5 v_p1_right_6 v_p1_pale_7 v_p1_dark_8 v_p1_ghosts_9 v_p1_printed_10 v_p1_heats_11 => (((v_p1_queue (Int32.toNatClampNeg (0 : Int32))) = (0 : Int32) → P_X1_printSome_L3 v_z_dots v_z_cool v_z_low v_z_high v_z_ghost v_p1_figures x2 x3 C36 C72 n (x4 + (1 : Int32)) v_pulses_3 v_p1_queued_1 v_p1_last_4 v_p1_before_5 v_p1_ribbon v_p1_right_6 v_p1_pale_7 v_p1_dark_8 v_p1_ghosts_9 v_p1_printed_10 v_p1_heats_11 v_p1_queue_2) ∧ (¬ (v_p1_queue (Int32.toNatClampNeg (0 : Int32))) = (0 : Int32) → P_X1_printSome_L3 v_z_dots v_z_cool v_z_low v_z_high v_z_ghost v_p1_figures x2 x3 C36 C72 n (x4 + (1 : Int32)) v_pulses_3 v_p1_queued_1 v_p1_last_4 v_p1_before_5 (v_p1_ribbon - (1 : Int32)) v_p1_right_6 v_p1_pale_7 v_p1_dark_8 v_p1_ghosts_9 v_p1_printed_10 v_p1_heats_11 v_p1_queue_2))))))) ∧ (v_p1_ribbon = (0 : Int32) → (((v_p1_queue (Int32.toNatClampNeg (0 : Int32))) = (0 : Int32) → (P_X5_dropFirst v_p1_queued v_p1_queue (fun v_p1_queued_12 v_p1_queue_13 => (P_X1_printLine (v_p1_queue (Int32.toNatClampNeg (0 : Int32))) x3 v_z_dots v_z_cool v_z_low v_z_high v_z_ghost v_pulses v_p1_last v_p1_before v_p1_right v_p1_pale v_p1_dark v_p1_ghosts v_p1_printed v_p1_heats v_p1_figures (fun v_pulses_14 v_p1_last_15 v_p1_before_16 v_p1_right_17 v_p1_pale_18 v_p1_dark_19 v_p1_ghosts_20 v_p1_printed_21 v_p1_heats_22 => (((v_p1_queue (Int32.toNatClampNeg (0 : Int32))) = (0 : Int32) → P_X1_printSome_L3 v_z_dots v_z_cool v_z_low v_z_high v_z_ghost v_p1_figures x2 x3 C36 C72 n (x4 + (1 : Int32)) v_pulses_14 v_p1_queued_12 v_p1_last_15 v_p1_before_16 v_p1_ribbon v_p1_right_17 v_p1_pale_18 v_p1_dark_19 v_p1_ghosts_20 v_p1_printed_21 v_p1_heats_22 v_p1_queue_13) ∧ (¬ (v_p1_queue (Int32.toNatClampNeg (0 : Int32))) = (0 : Int32) → P_X1_printSome_L3 v_z_dots v_z_cool v_z_low v_z_high v_z_ghost v_p1_figures x2 x3 C36 C72 n (x4 + (1 : Int32)) v_pulses_14 v_p1_queued_12 v_p1_last_15 v_p1_before_16 (v_p1_ribbon - (1 : Int32)) v_p1_right_17 v_p1_pale_18 v_p1_dark_19 v_p1_ghosts_20 v_p1_printed_21 v_p1_heats_22 v_p1_queue_13))))))) ∧ (¬ (v_p1_queue (Int32.toNatClampNeg (0 : Int32))) = (0 : Int32) → C36 x4 v_pulses v_p1_queued v_p1_last v_p1_before v_p1_ribbon v_p1_right v_p1_pale v_p1_dark v_p1_ghosts v_p1_printed v_p1_heats v_p1_queue))))))))
def P_X1_printSome (b2 : Int32) (b3 : Int32) (v_z_dots : Int32) (v_z_cool : Int32) (v_z_low : Int32) (v_z_high : Int32) (v_z_ghost : Int32) (v_pulses : Nat → Int32) (v_p1_queued : Int32) (v_p1_last : Int32) (v_p1_before : Int32) (v_p1_ribbon : Int32) (v_p1_right : Int32) (v_p1_pale : Int32) (v_p1_dark : Int32) (v_p1_ghosts : Int32) (v_p1_printed : Int32) (v_p1_heats : Nat → Int32) (v_p1_figures : Nat → Int32) (v_p1_queue : Nat → Int32) (K : Int32 → (Nat → Int32) → Int32 → Int32 → Int32 → Int32 → Int32 → Int32 → Int32 → Int32 → Int32 → (Nat → Int32) → (Nat → Int32) → Prop) : Prop := (∃ ne : Nat, P_X1_printSome_L3 v_z_dots v_z_cool v_z_low v_z_high v_z_ghost v_p1_figures b2 b3 (fun x45 v_pulses_46 v_p1_queued_47 v_p1_last_48 v_p1_before_49 v_p1_ribbon_50 v_p1_right_51 v_p1_pale_52 v_p1_dark_53 v_p1_ghosts_54 v_p1_printed_55 v_p1_heats_56 v_p1_queue_57 => K x45 v_pulses_46 v_p1_queued_47 v_p1_last_48 v_p1_before_49 v_p1_ribbon_50 v_p1_right_51 v_p1_pale_52 v_p1_dark_53 v_p1_ghosts_54 v_p1_printed_55 v_p1_heats_56 v_p1_queue_57) (fun v_pulses_58 v_p1_queued_59 v_p1_last_60 v_p1_before_61 v_p1_ribbon_62 v_p1_right_63 v_p1_pale_64 v_p1_dark_65 v_p1_ghosts_66 v_p1_printed_67 v_p1_heats_68 v_p1_queue_69 => K b2 v_pulses_58 v_p1_queued_59 v_p1_last_60 v_p1_before_61 v_p1_ribbon_62 v_p1_right_63 v_p1_pale_64 v_p1_dark_65 v_p1_ghosts_66 v_p1_printed_67 v_p1_heats_68 v_p1_queue_69) ne (0 : Int32) v_pulses v_p1_queued v_p1_last v_p1_before v_p1_ribbon v_p1_right v_p1_pale v_p1_dark v_p1_ghosts v_p1_printed v_p1_heats v_p1_queue)
set_option maxHeartbeats 4000000 in
set_option maxRecDepth 100000 in
theorem l_X1_printSome_3 {Γ : g_C} (X : g_X Γ (g_Rm 3 70) cX1_printSome RX1 6) (h0 : Nat) (h1 : Nat) (h2 : Nat) (h3 : Nat) (h4 : Nat) (h5 : Nat) (o0 : Value) (v_z_dots : Int32) (v_z_cool : Int32) (v_z_low : Int32) (v_z_high : Int32) (v_z_ghost : Int32) (v_p1_figures : Nat → Int32) (x2 : Int32) (x3 : Int32) {C36 : Int32 → (Nat → Int32) → Int32 → Int32 → Int32 → Int32 → Int32 → Int32 → Int32 → Int32 → Int32 → (Nat → Int32) → (Nat → Int32) → Prop} {C72 : (Nat → Int32) → Int32 → Int32 → Int32 → Int32 → Int32 → Int32 → Int32 → Int32 → Int32 → (Nat → Int32) → (Nat → Int32) → Prop} (hC36 : ∀ (x4 : Int32) (v_pulses : Nat → Int32) (v_p1_queued : Int32) (v_p1_last : Int32) (v_p1_before : Int32) (v_p1_ribbon : Int32) (v_p1_right : Int32) (v_p1_pale : Int32) (v_p1_dark : Int32) (v_p1_ghosts : Int32) (v_p1_printed : Int32) (v_p1_heats : Nat → Int32) (v_p1_queue : Nat → Int32), C36 x4 v_pulses v_p1_queued v_p1_last v_p1_before v_p1_ribbon v_p1_right v_p1_pale v_p1_dark v_p1_ghosts v_p1_printed v_p1_heats v_p1_queue → g_G Γ (g_Rm 3 70) 6 36 [(4, .int x4)] [] (W_X1_printSome (g_env Γ) h0 h1 h2 h3 h4 h5 o0 v_z_dots v_z_cool v_z_low v_z_high v_z_ghost v_pulses v_p1_queued v_p1_last v_p1_before v_p1_ribbon v_p1_right v_p1_pale v_p1_dark v_p1_ghosts v_p1_printed v_p1_heats v_p1_figures v_p1_queue)) (hC72 : ∀ (v_pulses : Nat → Int32) (v_p1_queued : Int32) (v_p1_last : Int32) (v_p1_before : Int32) (v_p1_ribbon : Int32) (v_p1_right : Int32) (v_p1_pale : Int32) (v_p1_dark : Int32) (v_p1_ghosts : Int32) (v_p1_printed : Int32) (v_p1_heats : Nat → Int32) (v_p1_queue : Nat → Int32), C72 v_pulses v_p1_queued v_p1_last v_p1_before v_p1_ribbon v_p1_right v_p1_pale v_p1_dark v_p1_ghosts v_p1_printed v_p1_heats v_p1_queue → g_G Γ (g_Rm 3 70) 6 72 [(2, .int x2)] [] (W_X1_printSome (g_env Γ) h0 h1 h2 h3 h4 h5 o0 v_z_dots v_z_cool v_z_low v_z_high v_z_ghost v_pulses v_p1_queued v_p1_last v_p1_before v_p1_ribbon v_p1_right v_p1_pale v_p1_dark v_p1_ghosts v_p1_printed v_p1_heats v_p1_figures v_p1_queue)) : ∀ (n : Nat) (x4 : Int32) (v_pulses : Nat → Int32) (v_p1_queued : Int32) (v_p1_last : Int32) (v_p1_before : Int32) (v_p1_ribbon : Int32) (v_p1_right : Int32) (v_p1_pale : Int32) (v_p1_dark : Int32) (v_p1_ghosts : Int32) (v_p1_printed : Int32) (v_p1_heats : Nat → Int32) (v_p1_queue : Nat → Int32), P_X1_printSome_L3 v_z_dots v_z_cool v_z_low v_z_high v_z_ghost v_p1_figures x2 x3 C36 C72 n x4 v_pulses v_p1_queued v_p1_last v_p1_before v_p1_ribbon v_p1_right v_p1_pale v_p1_dark v_p1_ghosts v_p1_printed v_p1_heats v_p1_queue → g_G Γ (g_Rm 3 70) 6 3 [(0, .ref h0), (1, .ref h2), (2, .int x2), (3, .int x3), (4, .int x4)] [] (W_X1_printSome (g_env Γ) h0 h1 h2 h3 h4 h5 o0 v_z_dots v_z_cool v_z_low v_z_high v_z_ghost v_pulses v_p1_queued v_p1_last v_p1_before v_p1_ribbon v_p1_right v_p1_pale v_p1_dark v_p1_ghosts v_p1_printed v_p1_heats v_p1_figures v_p1_queue) := by
  intro n
  induction n with
  | zero => intro x4 v_pulses v_p1_queued v_p1_last v_p1_before v_p1_ribbon v_p1_right v_p1_pale v_p1_dark v_p1_ghosts v_p1_printed v_p1_heats v_p1_queue h; exact False.elim h
  | succ n ih =>
    intro x4 v_pulses v_p1_queued v_p1_last v_p1_before v_p1_ribbon v_p1_right v_p1_pale v_p1_dark v_p1_ghosts v_p1_printed v_p1_heats v_p1_queue h
    unfold P_X1_printSome_L3 at h
    refine g_iload 3 X dX1_printSome_3 4 rfl ?_
    refine g_iload_n 5 X dX1_printSome_5 2 rfl rfl ?_
    refine g_icmp_ge 6 X 72 dX1_printSome_6 (by decide) (fun c => ?_) (fun c => ?_)
    · replace h := h.1 c
      refine g_sub [(2, .int x2)] [2] rfl ?_
      exact hC72 v_pulses v_p1_queued v_p1_last v_p1_before v_p1_ribbon v_p1_right v_p1_pale v_p1_dark v_p1_ghosts v_p1_printed v_p1_heats v_p1_queue h
    · replace h := h.2 c
      refine g_aload_n 9 X dX1_printSome_9 1 rfl rfl ?_
      refine g_get 10 X fa_X1_38 dX1_printSome_10 2 rfl rfl ?_
      refine g_iconst 13 X (0 : Int32) dX1_printSome_13 k_ic_0 ?_
      refine g_iald 14 X dX1_printSome_14 5 rfl rfl (vp_lit (by decide)) ?_
      refine g_istore 15 X [(5, .int (v_p1_queue (Int32.toNatClampNeg (0 : Int32)))), (0, .ref h0), (1, .ref h2), (2, .int x2), (3, .int x3), (4, .int x4)] dX1_printSome_15 (Nat.le_of_ble_eq_true rfl) rfl ?_
      refine g_aload_n 17 X dX1_printSome_17 2 rfl rfl ?_
      refine g_get 18 X fa_X1_41 dX1_printSome_18 2 rfl rfl ?_
      refine g_if_eq 21 X 36 dX1_printSome_21 (by decide) (fun c => ?_) (fun c => ?_)
      · replace h := h.1 c
        refine g_sub [(4, .int x4)] [5] rfl ?_
        exact hC36 x4 v_pulses v_p1_queued v_p1_last v_p1_before v_p1_ribbon v_p1_right v_p1_pale v_p1_dark v_p1_ghosts v_p1_printed v_p1_heats v_p1_queue h
      · replace h := h.2 c
        refine g_aload_n 24 X dX1_printSome_24 2 rfl rfl ?_
        refine g_get 25 X fa_X1_44 dX1_printSome_25 2 rfl rfl ?_
        refine g_if_ne 28 X 39 dX1_printSome_28 (by decide) (fun c => ?_) (fun c => ?_)
        · replace h := h.1 c
          refine g_aload_n 39 X dX1_printSome_39 2 rfl rfl ?_
          refine g_cVV 40 X (st := []) mv_X1_47 dX1_printSome_40 h2 5 [] (c_X5_dropFirst h2 h5 (.ref h3) (.ref h4) (.int v_p1_last) (.int v_p1_before) (.int v_p1_ribbon) (.int v_p1_right) (.int v_p1_pale) (.int v_p1_dark) (.int v_p1_ghosts) (.int v_p1_printed) v_p1_queued v_p1_queue h) [2, 5] (fun u : Int32 × (Nat → Int32) => (W_X1_printSome (g_env Γ) h0 h1 h2 h3 h4 h5 o0 v_z_dots v_z_cool v_z_low v_z_high v_z_ghost v_pulses u.1 v_p1_last v_p1_before v_p1_ribbon v_p1_right v_p1_pale v_p1_dark v_p1_ghosts v_p1_printed v_p1_heats v_p1_figures u.2)) rfl ⟨(Nat.le_of_ble_eq_true rfl), (Nat.le_of_ble_eq_true rfl)⟩ ⟨rfl, rfl⟩ (Nat.le_of_ble_eq_true rfl) rfl rfl rfl (by decide) (fun _ => rfl) (fun _ => rfl) (fun u h => ?_)
          obtain ⟨v_p1_queued_23, v_p1_queue_24⟩ := u
          dsimp only at h ⊢
          refine g_aload_n 43 X dX1_printSome_43 1 rfl rfl ?_
          refine g_aload_n 44 X dX1_printSome_44 2 rfl rfl ?_
          refine g_iload 45 X dX1_printSome_45 0 rfl ?_
          refine g_iload_n 47 X dX1_printSome_47 4 rfl rfl ?_
          refine g_cVV 48 X (st := []) mv_X1_50 dX1_printSome_48 h0 1 [.ref h2, .int (v_p1_queue (Int32.toNatClampNeg (0 : Int32))), .int x3] (c_X1_printLine h0 h1 h2 h3 h4 o0 (.ref h5) (.int v_p1_queued_23) (.int v_p1_ribbon) v_z_dots v_z_cool v_z_low v_z_high v_z_ghost v_pulses v_p1_last v_p1_before v_p1_right v_p1_pale v_p1_dark v_p1_ghosts v_p1_printed v_p1_heats v_p1_figures (v_p1_queue (Int32.toNatClampNeg (0 : Int32))) x3 h) [0, 1, 2, 3, 4] (fun u : (Nat → Int32) × Int32 × Int32 × Int32 × Int32 × Int32 × Int32 × Int32 × (Nat → Int32) => (W_X1_printSome (g_env Γ) h0 h1 h2 h3 h4 h5 o0 v_z_dots v_z_cool v_z_low v_z_high v_z_ghost u.1 v_p1_queued_23 u.2.1 u.2.2.1 v_p1_ribbon u.2.2.2.1 u.2.2.2.2.1 u.2.2.2.2.2.1 u.2.2.2.2.2.2.1 u.2.2.2.2.2.2.2.1 u.2.2.2.2.2.2.2.2 v_p1_figures v_p1_queue_24)) rfl ⟨(Nat.le_of_ble_eq_true rfl), (Nat.le_of_ble_eq_true rfl)⟩ ⟨rfl, rfl⟩ (Nat.le_of_ble_eq_true rfl) rfl rfl rfl (by decide) (fun _ => rfl) (fun _ => rfl) (fun u h => ?_)
          obtain ⟨v_pulses_25, v_p1_last_26, v_p1_before_27, v_p1_right_28, v_p1_pale_29, v_p1_dark_30, v_p1_ghosts_31, v_p1_printed_32, v_p1_heats_33⟩ := u
          dsimp only at h ⊢
          refine g_iload 51 X dX1_printSome_51 0 rfl ?_
          refine g_if_eq 53 X 66 dX1_printSome_53 (by decide) (fun c => ?_) (fun c => ?_)
          · replace h := h.1 c
            refine g_iinc 66 X (x4 + (1 : Int32)) [(4, .int (x4 + (1 : Int32))), (5, .int (v_p1_queue (Int32.toNatClampNeg (0 : Int32)))), (0, .ref h0), (1, .ref h2), (2, .int x2), (3, .int x3)] dX1_printSome_66 5 rfl (k_ii_1 _) (Nat.le_of_ble_eq_true rfl) rfl ?_
            refine g_goto 69 X 3 dX1_printSome_69 (by decide) ?_
            refine g_sub [(0, .ref h0), (1, .ref h2), (2, .int x2), (3, .int x3), (4, .int (x4 + (1 : Int32)))] [2, 3, 4, 5, 0] rfl ?_
            exact ih (x4 + (1 : Int32)) v_pulses_25 v_p1_queued_23 v_p1_last_26 v_p1_before_27 v_p1_ribbon v_p1_right_28 v_p1_pale_29 v_p1_dark_30 v_p1_ghosts_31 v_p1_printed_32 v_p1_heats_33 v_p1_queue_24 h
          · replace h := h.2 c
            refine g_aload_n 56 X dX1_printSome_56 2 rfl rfl ?_
            refine g_dup 57 X dX1_printSome_57 rfl ?_
            refine g_get 58 X fa_X1_44 dX1_printSome_58 2 rfl rfl ?_
            refine g_iconst 61 X (1 : Int32) dX1_printSome_61 k_ic_1 ?_
            refine g_isub 62 X dX1_printSome_62 ?_
            refine g_put 63 X (W_X1_printSome (g_env Γ) h0 h1 h2 h3 h4 h5 o0 v_z_dots v_z_cool v_z_low v_z_high v_z_ghost v_pulses_25 v_p1_queued_23 v_p1_last_26 v_p1_before_27 (v_p1_ribbon - (1 : Int32)) v_p1_right_28 v_p1_pale_29 v_p1_dark_30 v_p1_ghosts_31 v_p1_printed_32 v_p1_heats_33 v_p1_figures v_p1_queue_24) fa_X1_44 pa_5_6 dX1_printSome_63 2 rfl rfl rfl (Nat.le_of_ble_eq_true rfl) rfl ?_
            refine g_iinc 66 X (x4 + (1 : Int32)) [(4, .int (x4 + (1 : Int32))), (5, .int (v_p1_queue (Int32.toNatClampNeg (0 : Int32)))), (0, .ref h0), (1, .ref h2), (2, .int x2), (3, .int x3)] dX1_printSome_66 5 rfl (k_ii_1 _) (Nat.le_of_ble_eq_true rfl) rfl ?_
            refine g_goto 69 X 3 dX1_printSome_69 (by decide) ?_
            refine g_sub [(0, .ref h0), (1, .ref h2), (2, .int x2), (3, .int x3), (4, .int (x4 + (1 : Int32)))] [2, 3, 4, 5, 0] rfl ?_
            exact ih (x4 + (1 : Int32)) v_pulses_25 v_p1_queued_23 v_p1_last_26 v_p1_before_27 (v_p1_ribbon - (1 : Int32)) v_p1_right_28 v_p1_pale_29 v_p1_dark_30 v_p1_ghosts_31 v_p1_printed_32 v_p1_heats_33 v_p1_queue_24 h
        · replace h := h.2 c
          refine g_iload 31 X dX1_printSome_31 0 rfl ?_
          refine g_if_eq 33 X 39 dX1_printSome_33 (by decide) (fun c => ?_) (fun c => ?_)
          · replace h := h.1 c
            refine g_aload_n 39 X dX1_printSome_39 2 rfl rfl ?_
            refine g_cVV 40 X (st := []) mv_X1_47 dX1_printSome_40 h2 5 [] (c_X5_dropFirst h2 h5 (.ref h3) (.ref h4) (.int v_p1_last) (.int v_p1_before) (.int v_p1_ribbon) (.int v_p1_right) (.int v_p1_pale) (.int v_p1_dark) (.int v_p1_ghosts) (.int v_p1_printed) v_p1_queued v_p1_queue h) [2, 5] (fun u : Int32 × (Nat → Int32) => (W_X1_printSome (g_env Γ) h0 h1 h2 h3 h4 h5 o0 v_z_dots v_z_cool v_z_low v_z_high v_z_ghost v_pulses u.1 v_p1_last v_p1_before v_p1_ribbon v_p1_right v_p1_pale v_p1_dark v_p1_ghosts v_p1_printed v_p1_heats v_p1_figures u.2)) rfl ⟨(Nat.le_of_ble_eq_true rfl), (Nat.le_of_ble_eq_true rfl)⟩ ⟨rfl, rfl⟩ (Nat.le_of_ble_eq_true rfl) rfl rfl rfl (by decide) (fun _ => rfl) (fun _ => rfl) (fun u h => ?_)
            obtain ⟨v_p1_queued_34, v_p1_queue_35⟩ := u
            dsimp only at h ⊢
            refine g_aload_n 43 X dX1_printSome_43 1 rfl rfl ?_
            refine g_aload_n 44 X dX1_printSome_44 2 rfl rfl ?_
            refine g_iload 45 X dX1_printSome_45 0 rfl ?_
            refine g_iload_n 47 X dX1_printSome_47 4 rfl rfl ?_
            refine g_cVV 48 X (st := []) mv_X1_50 dX1_printSome_48 h0 1 [.ref h2, .int (v_p1_queue (Int32.toNatClampNeg (0 : Int32))), .int x3] (c_X1_printLine h0 h1 h2 h3 h4 o0 (.ref h5) (.int v_p1_queued_34) (.int v_p1_ribbon) v_z_dots v_z_cool v_z_low v_z_high v_z_ghost v_pulses v_p1_last v_p1_before v_p1_right v_p1_pale v_p1_dark v_p1_ghosts v_p1_printed v_p1_heats v_p1_figures (v_p1_queue (Int32.toNatClampNeg (0 : Int32))) x3 h) [0, 1, 2, 3, 4] (fun u : (Nat → Int32) × Int32 × Int32 × Int32 × Int32 × Int32 × Int32 × Int32 × (Nat → Int32) => (W_X1_printSome (g_env Γ) h0 h1 h2 h3 h4 h5 o0 v_z_dots v_z_cool v_z_low v_z_high v_z_ghost u.1 v_p1_queued_34 u.2.1 u.2.2.1 v_p1_ribbon u.2.2.2.1 u.2.2.2.2.1 u.2.2.2.2.2.1 u.2.2.2.2.2.2.1 u.2.2.2.2.2.2.2.1 u.2.2.2.2.2.2.2.2 v_p1_figures v_p1_queue_35)) rfl ⟨(Nat.le_of_ble_eq_true rfl), (Nat.le_of_ble_eq_true rfl)⟩ ⟨rfl, rfl⟩ (Nat.le_of_ble_eq_true rfl) rfl rfl rfl (by decide) (fun _ => rfl) (fun _ => rfl) (fun u h => ?_)
            obtain ⟨v_pulses_36, v_p1_last_37, v_p1_before_38, v_p1_right_39, v_p1_pale_40, v_p1_dark_41, v_p1_ghosts_42, v_p1_printed_43, v_p1_heats_44⟩ := u
            dsimp only at h ⊢
            refine g_iload 51 X dX1_printSome_51 0 rfl ?_
            refine g_if_eq 53 X 66 dX1_printSome_53 (by decide) (fun c => ?_) (fun c => ?_)
            · replace h := h.1 c
              refine g_iinc 66 X (x4 + (1 : Int32)) [(4, .int (x4 + (1 : Int32))), (5, .int (v_p1_queue (Int32.toNatClampNeg (0 : Int32)))), (0, .ref h0), (1, .ref h2), (2, .int x2), (3, .int x3)] dX1_printSome_66 5 rfl (k_ii_1 _) (Nat.le_of_ble_eq_true rfl) rfl ?_
              refine g_goto 69 X 3 dX1_printSome_69 (by decide) ?_
              refine g_sub [(0, .ref h0), (1, .ref h2), (2, .int x2), (3, .int x3), (4, .int (x4 + (1 : Int32)))] [2, 3, 4, 5, 0] rfl ?_
              exact ih (x4 + (1 : Int32)) v_pulses_36 v_p1_queued_34 v_p1_last_37 v_p1_before_38 v_p1_ribbon v_p1_right_39 v_p1_pale_40 v_p1_dark_41 v_p1_ghosts_42 v_p1_printed_43 v_p1_heats_44 v_p1_queue_35 h
            · replace h := h.2 c
              refine g_aload_n 56 X dX1_printSome_56 2 rfl rfl ?_
              refine g_dup 57 X dX1_printSome_57 rfl ?_
              refine g_get 58 X fa_X1_44 dX1_printSome_58 2 rfl rfl ?_
              refine g_iconst 61 X (1 : Int32) dX1_printSome_61 k_ic_1 ?_
              refine g_isub 62 X dX1_printSome_62 ?_
              refine g_put 63 X (W_X1_printSome (g_env Γ) h0 h1 h2 h3 h4 h5 o0 v_z_dots v_z_cool v_z_low v_z_high v_z_ghost v_pulses_36 v_p1_queued_34 v_p1_last_37 v_p1_before_38 (v_p1_ribbon - (1 : Int32)) v_p1_right_39 v_p1_pale_40 v_p1_dark_41 v_p1_ghosts_42 v_p1_printed_43 v_p1_heats_44 v_p1_figures v_p1_queue_35) fa_X1_44 pa_5_6 dX1_printSome_63 2 rfl rfl rfl (Nat.le_of_ble_eq_true rfl) rfl ?_
              refine g_iinc 66 X (x4 + (1 : Int32)) [(4, .int (x4 + (1 : Int32))), (5, .int (v_p1_queue (Int32.toNatClampNeg (0 : Int32)))), (0, .ref h0), (1, .ref h2), (2, .int x2), (3, .int x3)] dX1_printSome_66 5 rfl (k_ii_1 _) (Nat.le_of_ble_eq_true rfl) rfl ?_
              refine g_goto 69 X 3 dX1_printSome_69 (by decide) ?_
              refine g_sub [(0, .ref h0), (1, .ref h2), (2, .int x2), (3, .int x3), (4, .int (x4 + (1 : Int32)))] [2, 3, 4, 5, 0] rfl ?_
              exact ih (x4 + (1 : Int32)) v_pulses_36 v_p1_queued_34 v_p1_last_37 v_p1_before_38 (v_p1_ribbon - (1 : Int32)) v_p1_right_39 v_p1_pale_40 v_p1_dark_41 v_p1_ghosts_42 v_p1_printed_43 v_p1_heats_44 v_p1_queue_35 h
          · replace h := h.2 c
            refine g_sub [(4, .int x4)] [5] rfl ?_
            exact hC36 x4 v_pulses v_p1_queued v_p1_last v_p1_before v_p1_ribbon v_p1_right v_p1_pale v_p1_dark v_p1_ghosts v_p1_printed v_p1_heats v_p1_queue h
set_option maxHeartbeats 4000000 in
set_option maxRecDepth 100000 in
theorem c_X1_printSome {l : Launch} {E : g_E} (h0 : Nat) (h1 : Nat) (h2 : Nat) (h3 : Nat) (h4 : Nat) (h5 : Nat) (o0 : Value) (v_z_dots : Int32) (v_z_cool : Int32) (v_z_low : Int32) (v_z_high : Int32) (v_z_ghost : Int32) (v_pulses : Nat → Int32) (v_p1_queued : Int32) (v_p1_last : Int32) (v_p1_before : Int32) (v_p1_ribbon : Int32) (v_p1_right : Int32) (v_p1_pale : Int32) (v_p1_dark : Int32) (v_p1_ghosts : Int32) (v_p1_printed : Int32) (v_p1_heats : Nat → Int32) (v_p1_figures : Nat → Int32) (v_p1_queue : Nat → Int32) (b2 : Int32) (b3 : Int32) {K : Int32 → (Nat → Int32) → Int32 → Int32 → Int32 → Int32 → Int32 → Int32 → Int32 → Int32 → Int32 → (Nat → Int32) → (Nat → Int32) → Prop} (h : P_X1_printSome b2 b3 v_z_dots v_z_cool v_z_low v_z_high v_z_ghost v_pulses v_p1_queued v_p1_last v_p1_before v_p1_ribbon v_p1_right v_p1_pale v_p1_dark v_p1_ghosts v_p1_printed v_p1_heats v_p1_figures v_p1_queue K) : g_CI l E yX1_printSome cX1_printSome 6 .int (g_Rm 3 70) [.ref h0, .ref h2, .int b2, .int b3] (W_X1_printSome E h0 h1 h2 h3 h4 h5 o0 v_z_dots v_z_cool v_z_low v_z_high v_z_ghost v_pulses v_p1_queued v_p1_last v_p1_before v_p1_ribbon v_p1_right v_p1_pale v_p1_dark v_p1_ghosts v_p1_printed v_p1_heats v_p1_figures v_p1_queue) (fun r (u : (Nat → Int32) × Int32 × Int32 × Int32 × Int32 × Int32 × Int32 × Int32 × Int32 × Int32 × (Nat → Int32) × (Nat → Int32)) => K r u.1 u.2.1 u.2.2.1 u.2.2.2.1 u.2.2.2.2.1 u.2.2.2.2.2.1 u.2.2.2.2.2.2.1 u.2.2.2.2.2.2.2.1 u.2.2.2.2.2.2.2.2.1 u.2.2.2.2.2.2.2.2.2.1 u.2.2.2.2.2.2.2.2.2.2.1 u.2.2.2.2.2.2.2.2.2.2.2) (fun (u : (Nat → Int32) × Int32 × Int32 × Int32 × Int32 × Int32 × Int32 × Int32 × Int32 × Int32 × (Nat → Int32) × (Nat → Int32)) => (W_X1_printSome E h0 h1 h2 h3 h4 h5 o0 v_z_dots v_z_cool v_z_low v_z_high v_z_ghost u.1 u.2.1 u.2.2.1 u.2.2.2.1 u.2.2.2.2.1 u.2.2.2.2.2.1 u.2.2.2.2.2.2.1 u.2.2.2.2.2.2.2.1 u.2.2.2.2.2.2.2.2.1 u.2.2.2.2.2.2.2.2.2.1 u.2.2.2.2.2.2.2.2.2.2.1 v_p1_figures u.2.2.2.2.2.2.2.2.2.2.2)) := by
  refine g_entI RX1 (by decide) rfl (Nat.le_of_ble_eq_true rfl) ?_
  intro Γ X hE hl ret
  subst hE
  subst hl
  unfold P_X1_printSome at h
  show g_G Γ (g_Rm 3 70) 6 0 [(0, .ref h0), (1, .ref h2), (2, .int b2), (3, .int b3)] [] (W_X1_printSome (g_env Γ) h0 h1 h2 h3 h4 h5 o0 v_z_dots v_z_cool v_z_low v_z_high v_z_ghost v_pulses v_p1_queued v_p1_last v_p1_before v_p1_ribbon v_p1_right v_p1_pale v_p1_dark v_p1_ghosts v_p1_printed v_p1_heats v_p1_figures v_p1_queue)
  refine g_iconst 0 X (0 : Int32) dX1_printSome_0 k_ic_0 ?_
  refine g_istore 1 X [(4, .int (0 : Int32)), (0, .ref h0), (1, .ref h2), (2, .int b2), (3, .int b3)] dX1_printSome_1 (Nat.le_of_ble_eq_true rfl) rfl ?_
  obtain ⟨n70, h⟩ := h
  refine g_sub [(0, .ref h0), (1, .ref h2), (2, .int b2), (3, .int b3), (4, .int (0 : Int32))] [1, 2, 3, 4, 0] rfl ?_
  refine l_X1_printSome_3 X h0 h1 h2 h3 h4 h5 o0 v_z_dots v_z_cool v_z_low v_z_high v_z_ghost v_p1_figures b2 b3 (fun x45 v_pulses_46 v_p1_queued_47 v_p1_last_48 v_p1_before_49 v_p1_ribbon_50 v_p1_right_51 v_p1_pale_52 v_p1_dark_53 v_p1_ghosts_54 v_p1_printed_55 v_p1_heats_56 v_p1_queue_57 h => ?_) (fun v_pulses_58 v_p1_queued_59 v_p1_last_60 v_p1_before_61 v_p1_ribbon_62 v_p1_right_63 v_p1_pale_64 v_p1_dark_65 v_p1_ghosts_66 v_p1_printed_67 v_p1_heats_68 v_p1_queue_69 h => ?_) n70 (0 : Int32) v_pulses v_p1_queued v_p1_last v_p1_before v_p1_ribbon v_p1_right v_p1_pale v_p1_dark v_p1_ghosts v_p1_printed v_p1_heats v_p1_queue h
  · refine g_iload 36 X dX1_printSome_36 0 rfl ?_
    exact ret 38 _ _ (v_pulses_46, v_p1_queued_47, v_p1_last_48, v_p1_before_49, v_p1_ribbon_50, v_p1_right_51, v_p1_pale_52, v_p1_dark_53, v_p1_ghosts_54, v_p1_printed_55, v_p1_heats_56, v_p1_queue_57) dX1_printSome_38 (vp_nar_int _) h
  · refine g_iload_n 72 X dX1_printSome_72 0 rfl rfl ?_
    exact ret 73 _ _ (v_pulses_58, v_p1_queued_59, v_p1_last_60, v_p1_before_61, v_p1_ribbon_62, v_p1_right_63, v_p1_pale_64, v_p1_dark_65, v_p1_ghosts_66, v_p1_printed_67, v_p1_heats_68, v_p1_queue_69) dX1_printSome_73 (vp_nar_int _) h

def W_X1_printQueue (E : g_E) (h0 : Nat) (h1 : Nat) (h2 : Nat) (h3 : Nat) (h4 : Nat) (h5 : Nat) (o0 o1 : Value) (v_z_dots : Int32) (v_z_cool : Int32) (v_z_low : Int32) (v_z_high : Int32) (v_z_ghost : Int32) (v_pulses : Nat → Int32) (v_p1_queued : Int32) (v_p1_last : Int32) (v_p1_before : Int32) (v_p1_right : Int32) (v_p1_pale : Int32) (v_p1_dark : Int32) (v_p1_ghosts : Int32) (v_p1_printed : Int32) (v_p1_heats : Nat → Int32) (v_p1_figures : Nat → Int32) (v_p1_queue : Nat → Int32) : va_W := [(h0, .inr (1, [.ref h1, .int v_z_dots, .int v_z_cool, o0, .int v_z_low, .int v_z_high, .int v_z_ghost])), (h1, .inl (E.2.1, 8, .inl v_pulses)), (h2, .inr (5, [.ref h3, .ref h4, .ref h5, .int v_p1_queued, .int v_p1_last, .int v_p1_before, o1, .int v_p1_right, .int v_p1_pale, .int v_p1_dark, .int v_p1_ghosts, .int v_p1_printed])), (h3, .inl (E.2.1, 8, .inl v_p1_heats)), (h4, .inl (E.2.1, 5, .inl v_p1_figures)), (h5, .inl (E.2.1, 8, .inl v_p1_queue))]
def P_X1_printQueue_L8 (v_z_dots : Int32) (v_z_cool : Int32) (v_z_low : Int32) (v_z_high : Int32) (v_z_ghost : Int32) (v_p1_queued : Int32) (v_p1_figures : Nat → Int32) (v_p1_queue : Nat → Int32) (x2 : Int32) (x3 : Int32) (C36 : (Nat → Int32) → Int32 → Int32 → Int32 → Int32 → Int32 → Int32 → Int32 → (Nat → Int32) → Prop) : Nat → Int32 → (Nat → Int32) → Int32 → Int32 → Int32 → Int32 → Int32 → Int32 → Int32 → (Nat → Int32) → Prop
  | 0, _, _, _, _, _, _, _, _, _, _ => False
  | n + 1, x4, v_pulses, v_p1_last, v_p1_before, v_p1_right, v_p1_pale, v_p1_dark, v_p1_ghosts, v_p1_printed, v_p1_heats => ((v_p1_queued ≤ x4 → C36 v_pulses v_p1_last v_p1_before v_p1_right v_p1_pale v_p1_dark v_p1_ghosts v_p1_printed v_p1_heats) ∧ (¬ v_p1_queued ≤ x4 → (vp_in x4 8 ∧ (P_X1_printLine (v_p1_queue (Int32.toNatClampNeg x4)) x2 v_z_dots v_z_cool v_z_low v_z_high v_z_ghost v_pulses v_p1_last v_p1_before v_p1_right v_p1_pale v_p1_dark v_p1_ghosts v_p1_printed v_p1_heats v_p1_figures (fun v_pulses_2 v_p1_last_3 v_p1_before_4 v_p1_right_5 v_p1_pale_6 v_p1_dark_7 v_p1_ghosts_8 v_p1_printed_9 v_p1_heats_10 => P_X1_printQueue_L8 v_z_dots v_z_cool v_z_low v_z_high v_z_ghost v_p1_queued v_p1_figures v_p1_queue x2 x3 C36 n (x4 + (1 : Int32)) v_pulses_2 v_p1_last_3 v_p1_before_4 v_p1_right_5 v_p1_pale_6 v_p1_dark_7 v_p1_ghosts_8 v_p1_printed_9 v_p1_heats_10)))))
def P_X1_printQueue (b2 : Int32) (v_z_dots : Int32) (v_z_cool : Int32) (v_z_low : Int32) (v_z_high : Int32) (v_z_ghost : Int32) (v_pulses : Nat → Int32) (v_p1_queued : Int32) (v_p1_last : Int32) (v_p1_before : Int32) (v_p1_right : Int32) (v_p1_pale : Int32) (v_p1_dark : Int32) (v_p1_ghosts : Int32) (v_p1_printed : Int32) (v_p1_heats : Nat → Int32) (v_p1_figures : Nat → Int32) (v_p1_queue : Nat → Int32) (K : Int32 → (Nat → Int32) → Int32 → Int32 → Int32 → Int32 → Int32 → Int32 → Int32 → (Nat → Int32) → Prop) : Prop := (∃ ne : Nat, P_X1_printQueue_L8 v_z_dots v_z_cool v_z_low v_z_high v_z_ghost v_p1_queued v_p1_figures v_p1_queue b2 v_p1_right (fun v_pulses_21 v_p1_last_22 v_p1_before_23 v_p1_right_24 v_p1_pale_25 v_p1_dark_26 v_p1_ghosts_27 v_p1_printed_28 v_p1_heats_29 => K (v_p1_right_24 - v_p1_right) v_pulses_21 v_p1_last_22 v_p1_before_23 v_p1_right_24 v_p1_pale_25 v_p1_dark_26 v_p1_ghosts_27 v_p1_printed_28 v_p1_heats_29) ne (0 : Int32) v_pulses v_p1_last v_p1_before v_p1_right v_p1_pale v_p1_dark v_p1_ghosts v_p1_printed v_p1_heats)
set_option maxHeartbeats 4000000 in
set_option maxRecDepth 100000 in
theorem l_X1_printQueue_8 {Γ : g_C} (X : g_X Γ (g_Rm 3 70) cX1_printQueue RX1 5) (h0 : Nat) (h1 : Nat) (h2 : Nat) (h3 : Nat) (h4 : Nat) (h5 : Nat) (o0 o1 : Value) (v_z_dots : Int32) (v_z_cool : Int32) (v_z_low : Int32) (v_z_high : Int32) (v_z_ghost : Int32) (v_p1_queued : Int32) (v_p1_figures : Nat → Int32) (v_p1_queue : Nat → Int32) (x2 : Int32) (x3 : Int32) {C36 : (Nat → Int32) → Int32 → Int32 → Int32 → Int32 → Int32 → Int32 → Int32 → (Nat → Int32) → Prop} (hC36 : ∀ (v_pulses : Nat → Int32) (v_p1_last : Int32) (v_p1_before : Int32) (v_p1_right : Int32) (v_p1_pale : Int32) (v_p1_dark : Int32) (v_p1_ghosts : Int32) (v_p1_printed : Int32) (v_p1_heats : Nat → Int32), C36 v_pulses v_p1_last v_p1_before v_p1_right v_p1_pale v_p1_dark v_p1_ghosts v_p1_printed v_p1_heats → g_G Γ (g_Rm 3 70) 5 36 [(1, .ref h2), (3, .int x3)] [] (W_X1_printQueue (g_env Γ) h0 h1 h2 h3 h4 h5 o0 o1 v_z_dots v_z_cool v_z_low v_z_high v_z_ghost v_pulses v_p1_queued v_p1_last v_p1_before v_p1_right v_p1_pale v_p1_dark v_p1_ghosts v_p1_printed v_p1_heats v_p1_figures v_p1_queue)) : ∀ (n : Nat) (x4 : Int32) (v_pulses : Nat → Int32) (v_p1_last : Int32) (v_p1_before : Int32) (v_p1_right : Int32) (v_p1_pale : Int32) (v_p1_dark : Int32) (v_p1_ghosts : Int32) (v_p1_printed : Int32) (v_p1_heats : Nat → Int32), P_X1_printQueue_L8 v_z_dots v_z_cool v_z_low v_z_high v_z_ghost v_p1_queued v_p1_figures v_p1_queue x2 x3 C36 n x4 v_pulses v_p1_last v_p1_before v_p1_right v_p1_pale v_p1_dark v_p1_ghosts v_p1_printed v_p1_heats → g_G Γ (g_Rm 3 70) 5 8 [(0, .ref h0), (1, .ref h2), (2, .int x2), (3, .int x3), (4, .int x4)] [] (W_X1_printQueue (g_env Γ) h0 h1 h2 h3 h4 h5 o0 o1 v_z_dots v_z_cool v_z_low v_z_high v_z_ghost v_pulses v_p1_queued v_p1_last v_p1_before v_p1_right v_p1_pale v_p1_dark v_p1_ghosts v_p1_printed v_p1_heats v_p1_figures v_p1_queue) := by
  intro n
  induction n with
  | zero => intro x4 v_pulses v_p1_last v_p1_before v_p1_right v_p1_pale v_p1_dark v_p1_ghosts v_p1_printed v_p1_heats h; exact False.elim h
  | succ n ih =>
    intro x4 v_pulses v_p1_last v_p1_before v_p1_right v_p1_pale v_p1_dark v_p1_ghosts v_p1_printed v_p1_heats h
    unfold P_X1_printQueue_L8 at h
    refine g_iload 8 X dX1_printQueue_8 4 rfl ?_
    refine g_aload_n 10 X dX1_printQueue_10 1 rfl rfl ?_
    refine g_get 11 X fa_X1_41 dX1_printQueue_11 2 rfl rfl ?_
    refine g_icmp_ge 14 X 36 dX1_printQueue_14 (by decide) (fun c => ?_) (fun c => ?_)
    · replace h := h.1 c
      refine g_sub [(1, .ref h2), (3, .int x3)] [1, 3] rfl ?_
      exact hC36 v_pulses v_p1_last v_p1_before v_p1_right v_p1_pale v_p1_dark v_p1_ghosts v_p1_printed v_p1_heats h
    · replace h := h.2 c
      refine g_aload_n 17 X dX1_printQueue_17 0 rfl rfl ?_
      refine g_aload_n 18 X dX1_printQueue_18 1 rfl rfl ?_
      refine g_aload_n 19 X dX1_printQueue_19 1 rfl rfl ?_
      refine g_get 20 X fa_X1_38 dX1_printQueue_20 2 rfl rfl ?_
      refine g_iload 23 X dX1_printQueue_23 4 rfl ?_
      have f11 := h.1; replace h := h.2
      refine g_iald 25 X dX1_printQueue_25 5 rfl rfl f11 ?_
      refine g_iload_n 26 X dX1_printQueue_26 2 rfl rfl ?_
      refine g_cVV 27 X (st := []) mv_X1_50 dX1_printQueue_27 h0 1 [.ref h2, .int (v_p1_queue (Int32.toNatClampNeg x4)), .int x2] (c_X1_printLine h0 h1 h2 h3 h4 o0 (.ref h5) (.int v_p1_queued) o1 v_z_dots v_z_cool v_z_low v_z_high v_z_ghost v_pulses v_p1_last v_p1_before v_p1_right v_p1_pale v_p1_dark v_p1_ghosts v_p1_printed v_p1_heats v_p1_figures (v_p1_queue (Int32.toNatClampNeg x4)) x2 h) [0, 1, 2, 3, 4] (fun u : (Nat → Int32) × Int32 × Int32 × Int32 × Int32 × Int32 × Int32 × Int32 × (Nat → Int32) => (W_X1_printQueue (g_env Γ) h0 h1 h2 h3 h4 h5 o0 o1 v_z_dots v_z_cool v_z_low v_z_high v_z_ghost u.1 v_p1_queued u.2.1 u.2.2.1 u.2.2.2.1 u.2.2.2.2.1 u.2.2.2.2.2.1 u.2.2.2.2.2.2.1 u.2.2.2.2.2.2.2.1 u.2.2.2.2.2.2.2.2 v_p1_figures v_p1_queue)) rfl ⟨(Nat.le_of_ble_eq_true rfl), (Nat.le_of_ble_eq_true rfl)⟩ ⟨rfl, rfl⟩ (Nat.le_of_ble_eq_true rfl) rfl rfl rfl (by decide) (fun _ => rfl) (fun _ => rfl) (fun u h => ?_)
      obtain ⟨v_pulses_12, v_p1_last_13, v_p1_before_14, v_p1_right_15, v_p1_pale_16, v_p1_dark_17, v_p1_ghosts_18, v_p1_printed_19, v_p1_heats_20⟩ := u
      dsimp only at h ⊢
      refine g_iinc 30 X (x4 + (1 : Int32)) [(4, .int (x4 + (1 : Int32))), (0, .ref h0), (1, .ref h2), (2, .int x2), (3, .int x3)] dX1_printQueue_30 4 rfl (k_ii_1 _) (Nat.le_of_ble_eq_true rfl) rfl ?_
      refine g_goto 33 X 8 dX1_printQueue_33 (by decide) ?_
      refine g_sub [(0, .ref h0), (1, .ref h2), (2, .int x2), (3, .int x3), (4, .int (x4 + (1 : Int32)))] [1, 2, 3, 4, 0] rfl ?_
      exact ih (x4 + (1 : Int32)) v_pulses_12 v_p1_last_13 v_p1_before_14 v_p1_right_15 v_p1_pale_16 v_p1_dark_17 v_p1_ghosts_18 v_p1_printed_19 v_p1_heats_20 h
set_option maxHeartbeats 4000000 in
set_option maxRecDepth 100000 in
theorem c_X1_printQueue {l : Launch} {E : g_E} (h0 : Nat) (h1 : Nat) (h2 : Nat) (h3 : Nat) (h4 : Nat) (h5 : Nat) (o0 o1 : Value) (v_z_dots : Int32) (v_z_cool : Int32) (v_z_low : Int32) (v_z_high : Int32) (v_z_ghost : Int32) (v_pulses : Nat → Int32) (v_p1_queued : Int32) (v_p1_last : Int32) (v_p1_before : Int32) (v_p1_right : Int32) (v_p1_pale : Int32) (v_p1_dark : Int32) (v_p1_ghosts : Int32) (v_p1_printed : Int32) (v_p1_heats : Nat → Int32) (v_p1_figures : Nat → Int32) (v_p1_queue : Nat → Int32) (b2 : Int32) {K : Int32 → (Nat → Int32) → Int32 → Int32 → Int32 → Int32 → Int32 → Int32 → Int32 → (Nat → Int32) → Prop} (h : P_X1_printQueue b2 v_z_dots v_z_cool v_z_low v_z_high v_z_ghost v_pulses v_p1_queued v_p1_last v_p1_before v_p1_right v_p1_pale v_p1_dark v_p1_ghosts v_p1_printed v_p1_heats v_p1_figures v_p1_queue K) : g_CI l E yX1_printQueue cX1_printQueue 5 .int (g_Rm 3 70) [.ref h0, .ref h2, .int b2] (W_X1_printQueue E h0 h1 h2 h3 h4 h5 o0 o1 v_z_dots v_z_cool v_z_low v_z_high v_z_ghost v_pulses v_p1_queued v_p1_last v_p1_before v_p1_right v_p1_pale v_p1_dark v_p1_ghosts v_p1_printed v_p1_heats v_p1_figures v_p1_queue) (fun r (u : (Nat → Int32) × Int32 × Int32 × Int32 × Int32 × Int32 × Int32 × Int32 × (Nat → Int32)) => K r u.1 u.2.1 u.2.2.1 u.2.2.2.1 u.2.2.2.2.1 u.2.2.2.2.2.1 u.2.2.2.2.2.2.1 u.2.2.2.2.2.2.2.1 u.2.2.2.2.2.2.2.2) (fun (u : (Nat → Int32) × Int32 × Int32 × Int32 × Int32 × Int32 × Int32 × Int32 × (Nat → Int32)) => (W_X1_printQueue E h0 h1 h2 h3 h4 h5 o0 o1 v_z_dots v_z_cool v_z_low v_z_high v_z_ghost u.1 v_p1_queued u.2.1 u.2.2.1 u.2.2.2.1 u.2.2.2.2.1 u.2.2.2.2.2.1 u.2.2.2.2.2.2.1 u.2.2.2.2.2.2.2.1 u.2.2.2.2.2.2.2.2 v_p1_figures v_p1_queue)) := by
  refine g_entI RX1 (by decide) rfl (Nat.le_of_ble_eq_true rfl) ?_
  intro Γ X hE hl ret
  subst hE
  subst hl
  unfold P_X1_printQueue at h
  show g_G Γ (g_Rm 3 70) 5 0 [(0, .ref h0), (1, .ref h2), (2, .int b2)] [] (W_X1_printQueue (g_env Γ) h0 h1 h2 h3 h4 h5 o0 o1 v_z_dots v_z_cool v_z_low v_z_high v_z_ghost v_pulses v_p1_queued v_p1_last v_p1_before v_p1_right v_p1_pale v_p1_dark v_p1_ghosts v_p1_printed v_p1_heats v_p1_figures v_p1_queue)
  refine g_aload_n 0 X dX1_printQueue_0 1 rfl rfl ?_
  refine g_get 1 X fa_X1_54 dX1_printQueue_1 2 rfl rfl ?_
  refine g_istore_n 4 X [(3, .int v_p1_right), (0, .ref h0), (1, .ref h2), (2, .int b2)] dX1_printQueue_4 rfl (Nat.le_of_ble_eq_true rfl) rfl ?_
  refine g_iconst 5 X (0 : Int32) dX1_printQueue_5 k_ic_0 ?_
  refine g_istore 6 X [(4, .int (0 : Int32)), (3, .int v_p1_right), (0, .ref h0), (1, .ref h2), (2, .int b2)] dX1_printQueue_6 (Nat.le_of_ble_eq_true rfl) rfl ?_
  obtain ⟨n30, h⟩ := h
  refine g_sub [(0, .ref h0), (1, .ref h2), (2, .int b2), (3, .int v_p1_right), (4, .int (0 : Int32))] [2, 3, 4, 1, 0] rfl ?_
  refine l_X1_printQueue_8 X h0 h1 h2 h3 h4 h5 o0 o1 v_z_dots v_z_cool v_z_low v_z_high v_z_ghost v_p1_queued v_p1_figures v_p1_queue b2 v_p1_right (fun v_pulses_21 v_p1_last_22 v_p1_before_23 v_p1_right_24 v_p1_pale_25 v_p1_dark_26 v_p1_ghosts_27 v_p1_printed_28 v_p1_heats_29 h => ?_) n30 (0 : Int32) v_pulses v_p1_last v_p1_before v_p1_right v_p1_pale v_p1_dark v_p1_ghosts v_p1_printed v_p1_heats h
  · refine g_aload_n 36 X dX1_printQueue_36 0 rfl rfl ?_
    refine g_get 37 X fa_X1_54 dX1_printQueue_37 2 rfl rfl ?_
    refine g_iload_n 40 X dX1_printQueue_40 1 rfl rfl ?_
    refine g_isub 41 X dX1_printQueue_41 ?_
    exact ret 42 _ _ (v_pulses_21, v_p1_last_22, v_p1_before_23, v_p1_right_24, v_p1_pale_25, v_p1_dark_26, v_p1_ghosts_27, v_p1_printed_28, v_p1_heats_29) dX1_printQueue_42 (vp_nar_int _) h

def W_X1_timeOf (E : g_E) (h0 : Nat) (h1 : Nat) (o0 o1 o2 o3 : Value) (v_z_dots : Int32) (v_z_power : Int32) (v_pulses : Nat → Int32) : va_W := [(h0, .inr (1, [.ref h1, .int v_z_dots, o0, .int v_z_power, o1, o2, o3])), (h1, .inl (E.2.1, 8, .inl v_pulses))]
def P_X1_timeOf_L16 (v_z_dots : Int32) (v_z_power : Int32) (v_pulses : Nat → Int32) (x1 : Int32) (x4 : Int32) (C70 : Int32 → Int32 → Prop) : Nat → Int32 → Int32 → Int32 → Prop
  | 0, _, _, _ => False
  | n + 1, x2, x3, x5 => ((v_z_dots ≤ x5 → C70 x2 x3) ∧ (¬ v_z_dots ≤ x5 → (P_X7_bit x1 x5 (fun r1 => ((¬ r1 = (1 : Int32) → P_X1_timeOf_L16 v_z_dots v_z_power v_pulses x1 x4 C70 n x2 x3 (x5 + (1 : Int32))) ∧ (r1 = (1 : Int32) → (vp_in x5 8 ∧ ((¬ (v_pulses (Int32.toNatClampNeg x5)) = x4 → P_X1_timeOf_L16 v_z_dots v_z_power v_pulses x1 x4 C70 n x2 x3 (x5 + (1 : Int32))) ∧ ((v_pulses (Int32.toNatClampNeg x5)) = x4 → ((¬ x3 = (0 : Int32) → P_X1_timeOf_L16 v_z_dots v_z_power v_pulses x1 x4 C70 n x2 (x3 + (-1 : Int32)) (x5 + (1 : Int32))) ∧ (x3 = (0 : Int32) → P_X1_timeOf_L16 v_z_dots v_z_power v_pulses x1 x4 C70 n (x2 + x4) (v_z_power + (-1 : Int32)) (x5 + (1 : Int32)))))))))))))
def P_X1_timeOf_L8 (v_z_dots : Int32) (v_z_power : Int32) (v_pulses : Nat → Int32) (x1 : Int32) (C76 : Int32 → Prop) : Nat → Int32 → Int32 → Int32 → Prop
  | 0, _, _, _ => False
  | n + 1, x2, x3, x4 => ((x4 < (0 : Int32) → C76 x2) ∧ (¬ x4 < (0 : Int32) → (∃ ne : Nat, P_X1_timeOf_L16 v_z_dots v_z_power v_pulses x1 x4 (fun x5 x6 => P_X1_timeOf_L8 v_z_dots v_z_power v_pulses x1 C76 n x5 x6 (x4 + (-1 : Int32))) ne x2 x3 (0 : Int32))))
def P_X1_timeOf (b1 : Int32) (v_z_dots : Int32) (v_z_power : Int32) (v_pulses : Nat → Int32) (K : Int32 → Prop) : Prop := (∃ ne : Nat, P_X1_timeOf_L8 v_z_dots v_z_power v_pulses b1 (fun x11 => K x11) ne (0 : Int32) (0 : Int32) (9 : Int32))
set_option maxHeartbeats 4000000 in
set_option maxRecDepth 100000 in
theorem l_X1_timeOf_16 {Γ : g_C} (X : g_X Γ (g_Rm 1 21) cX1_timeOf RX1 6) (h0 : Nat) (h1 : Nat) (o0 o1 o2 o3 : Value) (v_z_dots : Int32) (v_z_power : Int32) (v_pulses : Nat → Int32) (x1 : Int32) (x4 : Int32) {C70 : Int32 → Int32 → Prop} (hC70 : ∀ (x2 : Int32) (x3 : Int32), C70 x2 x3 → g_G Γ (g_Rm 1 21) 6 70 [(0, .ref h0), (1, .int x1), (2, .int x2), (3, .int x3), (4, .int x4)] [] (W_X1_timeOf (g_env Γ) h0 h1 o0 o1 o2 o3 v_z_dots v_z_power v_pulses)) : ∀ (n : Nat) (x2 : Int32) (x3 : Int32) (x5 : Int32), P_X1_timeOf_L16 v_z_dots v_z_power v_pulses x1 x4 C70 n x2 x3 x5 → g_G Γ (g_Rm 1 21) 6 16 [(0, .ref h0), (1, .int x1), (2, .int x2), (3, .int x3), (4, .int x4), (5, .int x5)] [] (W_X1_timeOf (g_env Γ) h0 h1 o0 o1 o2 o3 v_z_dots v_z_power v_pulses) := by
  intro n
  induction n with
  | zero => intro x2 x3 x5 h; exact False.elim h
  | succ n ih =>
    intro x2 x3 x5 h
    unfold P_X1_timeOf_L16 at h
    refine g_iload 16 X dX1_timeOf_16 5 rfl ?_
    refine g_aload_n 18 X dX1_timeOf_18 0 rfl rfl ?_
    refine g_get 19 X fa_X1_15 dX1_timeOf_19 0 rfl rfl ?_
    refine g_icmp_ge 22 X 70 dX1_timeOf_22 (by decide) (fun c => ?_) (fun c => ?_)
    · replace h := h.1 c
      refine g_sub [(0, .ref h0), (1, .int x1), (2, .int x2), (3, .int x3), (4, .int x4)] [0, 1, 2, 3, 4] rfl ?_
      exact hC70 x2 x3 h
    · replace h := h.2 c
      refine g_iload_n 25 X dX1_timeOf_25 1 rfl rfl ?_
      refine g_iload 26 X dX1_timeOf_26 5 rfl ?_
      refine g_cNI 28 X (st := []) mv_X1_78 dX1_timeOf_28 [.int x1, .int x5] (c_X7_bit x1 x5 h) [] (fun u : Unit => (W_X1_timeOf (g_env Γ) h0 h1 o0 o1 o2 o3 v_z_dots v_z_power v_pulses)) rfl ⟨(Nat.le_of_ble_eq_true rfl), (Nat.le_of_ble_eq_true rfl)⟩ ⟨rfl, rfl⟩ (Nat.le_of_ble_eq_true rfl) rfl (by decide) (fun _ => rfl) (fun _ => rfl) (fun r3 u h => ?_)
      refine g_iconst 31 X (1 : Int32) dX1_timeOf_31 k_ic_1 ?_
      refine g_icmp_ne 32 X 64 dX1_timeOf_32 (by decide) (fun c => ?_) (fun c => ?_)
      · replace h := h.1 c
        refine g_iinc 64 X (x5 + (1 : Int32)) [(5, .int (x5 + (1 : Int32))), (0, .ref h0), (1, .int x1), (2, .int x2), (3, .int x3), (4, .int x4)] dX1_timeOf_64 5 rfl (k_ii_1 _) (Nat.le_of_ble_eq_true rfl) rfl ?_
        refine g_goto 67 X 16 dX1_timeOf_67 (by decide) ?_
        refine g_sub [(0, .ref h0), (1, .int x1), (2, .int x2), (3, .int x3), (4, .int x4), (5, .int (x5 + (1 : Int32)))] [1, 2, 3, 4, 5, 0] rfl ?_
        exact ih x2 x3 (x5 + (1 : Int32)) h
      · replace h := h.2 c
        refine g_aload_n 35 X dX1_timeOf_35 0 rfl rfl ?_
        refine g_get 36 X fa_X1_9 dX1_timeOf_36 0 rfl rfl ?_
        refine g_iload 39 X dX1_timeOf_39 5 rfl ?_
        have f4 := h.1; replace h := h.2
        refine g_iald 41 X dX1_timeOf_41 1 rfl rfl f4 ?_
        refine g_iload 42 X dX1_timeOf_42 4 rfl ?_
        refine g_icmp_ne 44 X 64 dX1_timeOf_44 (by decide) (fun c => ?_) (fun c => ?_)
        · replace h := h.1 c
          refine g_iinc 64 X (x5 + (1 : Int32)) [(5, .int (x5 + (1 : Int32))), (0, .ref h0), (1, .int x1), (2, .int x2), (3, .int x3), (4, .int x4)] dX1_timeOf_64 5 rfl (k_ii_1 _) (Nat.le_of_ble_eq_true rfl) rfl ?_
          refine g_goto 67 X 16 dX1_timeOf_67 (by decide) ?_
          refine g_sub [(0, .ref h0), (1, .int x1), (2, .int x2), (3, .int x3), (4, .int x4), (5, .int (x5 + (1 : Int32)))] [1, 2, 3, 4, 5, 0] rfl ?_
          exact ih x2 x3 (x5 + (1 : Int32)) h
        · replace h := h.2 c
          refine g_iload_n 47 X dX1_timeOf_47 3 rfl rfl ?_
          refine g_if_ne 48 X 61 dX1_timeOf_48 (by decide) (fun c => ?_) (fun c => ?_)
          · replace h := h.1 c
            refine g_iinc 61 X (x3 + (-1 : Int32)) [(3, .int (x3 + (-1 : Int32))), (0, .ref h0), (1, .int x1), (2, .int x2), (4, .int x4), (5, .int x5)] dX1_timeOf_61 3 rfl (k_ii_m1 _) (Nat.le_of_ble_eq_true rfl) rfl ?_
            refine g_iinc 64 X (x5 + (1 : Int32)) [(5, .int (x5 + (1 : Int32))), (3, .int (x3 + (-1 : Int32))), (0, .ref h0), (1, .int x1), (2, .int x2), (4, .int x4)] dX1_timeOf_64 5 rfl (k_ii_1 _) (Nat.le_of_ble_eq_true rfl) rfl ?_
            refine g_goto 67 X 16 dX1_timeOf_67 (by decide) ?_
            refine g_sub [(0, .ref h0), (1, .int x1), (2, .int x2), (3, .int (x3 + (-1 : Int32))), (4, .int x4), (5, .int (x5 + (1 : Int32)))] [2, 3, 4, 1, 5, 0] rfl ?_
            exact ih x2 (x3 + (-1 : Int32)) (x5 + (1 : Int32)) h
          · replace h := h.2 c
            refine g_iload_n 51 X dX1_timeOf_51 2 rfl rfl ?_
            refine g_iload 52 X dX1_timeOf_52 4 rfl ?_
            refine g_iadd 54 X dX1_timeOf_54 ?_
            refine g_istore_n 55 X [(2, .int (x2 + x4)), (0, .ref h0), (1, .int x1), (3, .int x3), (4, .int x4), (5, .int x5)] dX1_timeOf_55 rfl (Nat.le_of_ble_eq_true rfl) rfl ?_
            refine g_aload_n 56 X dX1_timeOf_56 1 rfl rfl ?_
            refine g_get 57 X fa_X1_22 dX1_timeOf_57 0 rfl rfl ?_
            refine g_istore_n 60 X [(3, .int v_z_power), (2, .int (x2 + x4)), (0, .ref h0), (1, .int x1), (4, .int x4), (5, .int x5)] dX1_timeOf_60 rfl (Nat.le_of_ble_eq_true rfl) rfl ?_
            refine g_iinc 61 X (v_z_power + (-1 : Int32)) [(3, .int (v_z_power + (-1 : Int32))), (2, .int (x2 + x4)), (0, .ref h0), (1, .int x1), (4, .int x4), (5, .int x5)] dX1_timeOf_61 0 rfl (k_ii_m1 _) (Nat.le_of_ble_eq_true rfl) rfl ?_
            refine g_iinc 64 X (x5 + (1 : Int32)) [(5, .int (x5 + (1 : Int32))), (3, .int (v_z_power + (-1 : Int32))), (2, .int (x2 + x4)), (0, .ref h0), (1, .int x1), (4, .int x4)] dX1_timeOf_64 5 rfl (k_ii_1 _) (Nat.le_of_ble_eq_true rfl) rfl ?_
            refine g_goto 67 X 16 dX1_timeOf_67 (by decide) ?_
            refine g_sub [(0, .ref h0), (1, .int x1), (2, .int (x2 + x4)), (3, .int (v_z_power + (-1 : Int32))), (4, .int x4), (5, .int (x5 + (1 : Int32)))] [3, 4, 2, 1, 5, 0] rfl ?_
            exact ih (x2 + x4) (v_z_power + (-1 : Int32)) (x5 + (1 : Int32)) h
set_option maxHeartbeats 4000000 in
set_option maxRecDepth 100000 in
theorem l_X1_timeOf_8 {Γ : g_C} (X : g_X Γ (g_Rm 1 21) cX1_timeOf RX1 6) (h0 : Nat) (h1 : Nat) (o0 o1 o2 o3 : Value) (v_z_dots : Int32) (v_z_power : Int32) (v_pulses : Nat → Int32) (x1 : Int32) {C76 : Int32 → Prop} (hC76 : ∀ (x2 : Int32), C76 x2 → g_G Γ (g_Rm 1 21) 6 76 [(2, .int x2)] [] (W_X1_timeOf (g_env Γ) h0 h1 o0 o1 o2 o3 v_z_dots v_z_power v_pulses)) : ∀ (n : Nat) (x2 : Int32) (x3 : Int32) (x4 : Int32), P_X1_timeOf_L8 v_z_dots v_z_power v_pulses x1 C76 n x2 x3 x4 → g_G Γ (g_Rm 1 21) 6 8 [(0, .ref h0), (1, .int x1), (2, .int x2), (3, .int x3), (4, .int x4)] [] (W_X1_timeOf (g_env Γ) h0 h1 o0 o1 o2 o3 v_z_dots v_z_power v_pulses) := by
  intro n
  induction n with
  | zero => intro x2 x3 x4 h; exact False.elim h
  | succ n ih =>
    intro x2 x3 x4 h
    unfold P_X1_timeOf_L8 at h
    refine g_iload 8 X dX1_timeOf_8 4 rfl ?_
    refine g_if_lt 10 X 76 dX1_timeOf_10 (by decide) (fun c => ?_) (fun c => ?_)
    · replace h := h.1 c
      refine g_sub [(2, .int x2)] [2] rfl ?_
      exact hC76 x2 h
    · replace h := h.2 c
      refine g_iconst 13 X (0 : Int32) dX1_timeOf_13 k_ic_0 ?_
      refine g_istore 14 X [(5, .int (0 : Int32)), (0, .ref h0), (1, .int x1), (2, .int x2), (3, .int x3), (4, .int x4)] dX1_timeOf_14 (Nat.le_of_ble_eq_true rfl) rfl ?_
      obtain ⟨n10, h⟩ := h
      refine g_sub [(0, .ref h0), (1, .int x1), (2, .int x2), (3, .int x3), (4, .int x4), (5, .int (0 : Int32))] [1, 2, 3, 4, 5, 0] rfl ?_
      refine l_X1_timeOf_16 X h0 h1 o0 o1 o2 o3 v_z_dots v_z_power v_pulses x1 x4 (fun x8 x9 h => ?_) n10 x2 x3 (0 : Int32) h
      · refine g_iinc 70 X (x4 + (-1 : Int32)) [(4, .int (x4 + (-1 : Int32))), (0, .ref h0), (1, .int x1), (2, .int x8), (3, .int x9)] dX1_timeOf_70 4 rfl (k_ii_m1 _) (Nat.le_of_ble_eq_true rfl) rfl ?_
        refine g_goto 73 X 8 dX1_timeOf_73 (by decide) ?_
        refine g_sub [(0, .ref h0), (1, .int x1), (2, .int x8), (3, .int x9), (4, .int (x4 + (-1 : Int32)))] [1, 2, 3, 4, 0] rfl ?_
        exact ih x8 x9 (x4 + (-1 : Int32)) h
set_option maxHeartbeats 4000000 in
set_option maxRecDepth 100000 in
theorem c_X1_timeOf {l : Launch} {E : g_E} (h0 : Nat) (h1 : Nat) (o0 o1 o2 o3 : Value) (v_z_dots : Int32) (v_z_power : Int32) (v_pulses : Nat → Int32) (b1 : Int32) {K : Int32 → Prop} (h : P_X1_timeOf b1 v_z_dots v_z_power v_pulses K) : g_CI l E yX1_timeOf cX1_timeOf 6 .int (g_Rm 1 21) [.ref h0, .int b1] (W_X1_timeOf E h0 h1 o0 o1 o2 o3 v_z_dots v_z_power v_pulses) (fun r (u : Unit) => K r) (fun (u : Unit) => (W_X1_timeOf E h0 h1 o0 o1 o2 o3 v_z_dots v_z_power v_pulses)) := by
  refine g_entI RX1 (by decide) rfl (Nat.le_of_ble_eq_true rfl) ?_
  intro Γ X hE hl ret
  subst hE
  subst hl
  unfold P_X1_timeOf at h
  show g_G Γ (g_Rm 1 21) 6 0 [(0, .ref h0), (1, .int b1)] [] (W_X1_timeOf (g_env Γ) h0 h1 o0 o1 o2 o3 v_z_dots v_z_power v_pulses)
  refine g_iconst 0 X (0 : Int32) dX1_timeOf_0 k_ic_0 ?_
  refine g_istore_n 1 X [(2, .int (0 : Int32)), (0, .ref h0), (1, .int b1)] dX1_timeOf_1 rfl (Nat.le_of_ble_eq_true rfl) rfl ?_
  refine g_iconst 2 X (0 : Int32) dX1_timeOf_2 k_ic_0 ?_
  refine g_istore_n 3 X [(3, .int (0 : Int32)), (2, .int (0 : Int32)), (0, .ref h0), (1, .int b1)] dX1_timeOf_3 rfl (Nat.le_of_ble_eq_true rfl) rfl ?_
  refine g_bipush 4 X (9 : Int32) dX1_timeOf_4 k_bp_9 ?_
  refine g_istore 6 X [(4, .int (9 : Int32)), (3, .int (0 : Int32)), (2, .int (0 : Int32)), (0, .ref h0), (1, .int b1)] dX1_timeOf_6 (Nat.le_of_ble_eq_true rfl) rfl ?_
  obtain ⟨n12, h⟩ := h
  refine g_sub [(0, .ref h0), (1, .int b1), (2, .int (0 : Int32)), (3, .int (0 : Int32)), (4, .int (9 : Int32))] [3, 4, 2, 1, 0] rfl ?_
  refine l_X1_timeOf_8 X h0 h1 o0 o1 o2 o3 v_z_dots v_z_power v_pulses b1 (fun x11 h => ?_) n12 (0 : Int32) (0 : Int32) (9 : Int32) h
  · refine g_iload_n 76 X dX1_timeOf_76 0 rfl rfl ?_
    exact ret 77 _ _ () dX1_timeOf_77 (vp_nar_int _) h

def W_X2_findTimes (E : g_E) (h0 : Nat) (h1 : Nat) (h2 : Nat) (h3 : Nat) (h4 : Nat) (h5 : Nat) (h6 : Nat) (o0 o1 o2 o3 o4 o5 o6 o7 o8 o9 o10 o11 : Value) (v_times : Nat → Int32) (v_p1_dots : Int32) (v_p1_power : Int32) (v_p1_pulses : Nat → Int32) (v_p2_queued : Int32) (v_p2_last : Int32) (v_p2_before : Int32) (v_p2_figures : Nat → Int32) (v_p2_queue : Nat → Int32) : va_W := [(h0, .inr (2, [.ref h1, o0])), (h1, .inl (E.2.1, 8, .inl v_times)), (h2, .inr (1, [.ref h3, .int v_p1_dots, o1, .int v_p1_power, o2, o3, o4])), (h3, .inl (E.2.1, 8, .inl v_p1_pulses)), (h4, .inr (5, [o5, .ref h5, .ref h6, .int v_p2_queued, .int v_p2_last, .int v_p2_before, o6, o7, o8, o9, o10, o11])), (h5, .inl (E.2.1, 5, .inl v_p2_figures)), (h6, .inl (E.2.1, 8, .inl v_p2_queue))]
def P_X2_findTimes_L14 (v_p1_dots : Int32) (v_p1_power : Int32) (v_p2_queued : Int32) (v_p2_figures : Nat → Int32) (v_p2_queue : Nat → Int32) (C70 : (Nat → Int32) → (Nat → Int32) → Prop) : Nat → Int32 → Int32 → Int32 → (Nat → Int32) → (Nat → Int32) → Prop
  | 0, _, _, _, _, _ => False
  | n + 1, x3, x4, x5, v_times, v_p1_pulses => ((v_p2_queued ≤ x5 → C70 v_times v_p1_pulses) ∧ (¬ v_p2_queued ≤ x5 → (vp_in x5 8 ∧ (P_X1_findPulses (v_p2_queue (Int32.toNatClampNeg x5)) x3 x4 v_p1_dots v_p1_pulses v_p2_figures (fun v_p1_pulses_2 => (P_X1_timeOf (v_p2_queue (Int32.toNatClampNeg x5)) v_p1_dots v_p1_power v_p1_pulses_2 (fun r3 => P_X2_findTimes_L14 v_p1_dots v_p1_power v_p2_queued v_p2_figures v_p2_queue C70 n (v_p2_queue (Int32.toNatClampNeg x5)) x3 (x5 + (1 : Int32)) (upd v_times (Int32.toNatClampNeg x5) r3) v_p1_pulses_2)))))))
def P_X2_findTimes (v_times : Nat → Int32) (v_p1_dots : Int32) (v_p1_power : Int32) (v_p1_pulses : Nat → Int32) (v_p2_queued : Int32) (v_p2_last : Int32) (v_p2_before : Int32) (v_p2_figures : Nat → Int32) (v_p2_queue : Nat → Int32) (K : (Nat → Int32) → (Nat → Int32) → Prop) : Prop := (∃ ne : Nat, P_X2_findTimes_L14 v_p1_dots v_p1_power v_p2_queued v_p2_figures v_p2_queue (fun v_times_7 v_p1_pulses_8 => K v_times_7 v_p1_pulses_8) ne v_p2_last v_p2_before (0 : Int32) v_times v_p1_pulses)
set_option maxHeartbeats 4000000 in
set_option maxRecDepth 100000 in
theorem l_X2_findTimes_14 {Γ : g_C} (X : g_X Γ (g_Rm 2 47) cX2_findTimes RX2 7) (h0 : Nat) (h1 : Nat) (h2 : Nat) (h3 : Nat) (h4 : Nat) (h5 : Nat) (h6 : Nat) (o0 o1 o2 o3 o4 o5 o6 o7 o8 o9 o10 o11 : Value) (v_p1_dots : Int32) (v_p1_power : Int32) (v_p2_queued : Int32) (v_p2_last : Int32) (v_p2_before : Int32) (v_p2_figures : Nat → Int32) (v_p2_queue : Nat → Int32) {C70 : (Nat → Int32) → (Nat → Int32) → Prop} (hC70 : ∀ (v_times : Nat → Int32) (v_p1_pulses : Nat → Int32), C70 v_times v_p1_pulses → g_G Γ (g_Rm 2 47) 7 70 [] [] (W_X2_findTimes (g_env Γ) h0 h1 h2 h3 h4 h5 h6 o0 o1 o2 o3 o4 o5 o6 o7 o8 o9 o10 o11 v_times v_p1_dots v_p1_power v_p1_pulses v_p2_queued v_p2_last v_p2_before v_p2_figures v_p2_queue)) : ∀ (n : Nat) (x3 : Int32) (x4 : Int32) (x5 : Int32) (v_times : Nat → Int32) (v_p1_pulses : Nat → Int32), P_X2_findTimes_L14 v_p1_dots v_p1_power v_p2_queued v_p2_figures v_p2_queue C70 n x3 x4 x5 v_times v_p1_pulses → g_G Γ (g_Rm 2 47) 7 14 [(0, .ref h0), (1, .ref h2), (2, .ref h4), (3, .int x3), (4, .int x4), (5, .int x5)] [] (W_X2_findTimes (g_env Γ) h0 h1 h2 h3 h4 h5 h6 o0 o1 o2 o3 o4 o5 o6 o7 o8 o9 o10 o11 v_times v_p1_dots v_p1_power v_p1_pulses v_p2_queued v_p2_last v_p2_before v_p2_figures v_p2_queue) := by
  intro n
  induction n with
  | zero => intro x3 x4 x5 v_times v_p1_pulses h; exact False.elim h
  | succ n ih =>
    intro x3 x4 x5 v_times v_p1_pulses h
    unfold P_X2_findTimes_L14 at h
    refine g_iload 14 X dX2_findTimes_14 5 rfl ?_
    refine g_aload_n 16 X dX2_findTimes_16 2 rfl rfl ?_
    refine g_get 17 X fa_X2_22 dX2_findTimes_17 4 rfl rfl ?_
    refine g_icmp_ge 20 X 70 dX2_findTimes_20 (by decide) (fun c => ?_) (fun c => ?_)
    · replace h := h.1 c
      refine g_sub [] [] rfl ?_
      exact hC70 v_times v_p1_pulses h
    · replace h := h.2 c
      refine g_aload_n 23 X dX2_findTimes_23 2 rfl rfl ?_
      refine g_get 24 X fa_X2_44 dX2_findTimes_24 4 rfl rfl ?_
      refine g_iload 27 X dX2_findTimes_27 5 rfl ?_
      have f4 := h.1; replace h := h.2
      refine g_iald 29 X dX2_findTimes_29 6 rfl rfl f4 ?_
      refine g_istore 30 X [(6, .int (v_p2_queue (Int32.toNatClampNeg x5))), (0, .ref h0), (1, .ref h2), (2, .ref h4), (3, .int x3), (4, .int x4), (5, .int x5)] dX2_findTimes_30 (Nat.le_of_ble_eq_true rfl) rfl ?_
      refine g_aload_n 32 X dX2_findTimes_32 2 rfl rfl ?_
      refine g_aload_n 33 X dX2_findTimes_33 3 rfl rfl ?_
      refine g_get 34 X fa_X2_47 dX2_findTimes_34 4 rfl rfl ?_
      refine g_iload 37 X dX2_findTimes_37 0 rfl ?_
      refine g_iload_n 39 X dX2_findTimes_39 4 rfl rfl ?_
      refine g_iload 40 X dX2_findTimes_40 5 rfl ?_
      refine g_cVV 42 X (st := []) mv_X2_50 dX2_findTimes_42 h2 1 [.ref h5, .int (v_p2_queue (Int32.toNatClampNeg x5)), .int x3, .int x4] (c_X1_findPulses h2 h3 h5 o1 (.int v_p1_power) o2 o3 o4 v_p1_dots v_p1_pulses v_p2_figures (v_p2_queue (Int32.toNatClampNeg x5)) x3 x4 h) [2, 3, 5] (fun u : (Nat → Int32) => (W_X2_findTimes (g_env Γ) h0 h1 h2 h3 h4 h5 h6 o0 o1 o2 o3 o4 o5 o6 o7 o8 o9 o10 o11 v_times v_p1_dots v_p1_power u v_p2_queued v_p2_last v_p2_before v_p2_figures v_p2_queue)) rfl ⟨(Nat.le_of_ble_eq_true rfl), (Nat.le_of_ble_eq_true rfl)⟩ ⟨rfl, rfl⟩ (Nat.le_of_ble_eq_true rfl) rfl rfl rfl (by decide) (fun _ => rfl) (fun _ => rfl) (fun u h => ?_)
      obtain ⟨v_p1_pulses_5, rfl⟩ : ∃ z, z = u := ⟨_, rfl⟩
      refine g_aload_n 45 X dX2_findTimes_45 1 rfl rfl ?_
      refine g_get 46 X fa_X2_9 dX2_findTimes_46 0 rfl rfl ?_
      refine g_iload 49 X dX2_findTimes_49 6 rfl ?_
      refine g_aload_n 51 X dX2_findTimes_51 2 rfl rfl ?_
      refine g_iload 52 X dX2_findTimes_52 0 rfl ?_
      refine g_cVI 54 X (st := [.int x5, .ref h1]) mv_X2_56 dX2_findTimes_54 h2 1 [.int (v_p2_queue (Int32.toNatClampNeg x5))] (c_X1_timeOf h2 h3 o1 o2 o3 o4 v_p1_dots v_p1_power v_p1_pulses_5 (v_p2_queue (Int32.toNatClampNeg x5)) h) [2, 3] (fun u : Unit => (W_X2_findTimes (g_env Γ) h0 h1 h2 h3 h4 h5 h6 o0 o1 o2 o3 o4 o5 o6 o7 o8 o9 o10 o11 v_times v_p1_dots v_p1_power v_p1_pulses_5 v_p2_queued v_p2_last v_p2_before v_p2_figures v_p2_queue)) rfl ⟨(Nat.le_of_ble_eq_true rfl), (Nat.le_of_ble_eq_true rfl)⟩ ⟨rfl, rfl⟩ (Nat.le_of_ble_eq_true rfl) rfl rfl rfl (by decide) (fun _ => rfl) (fun _ => rfl) (fun r6 u h => ?_)
      refine g_iast 57 X (W_X2_findTimes (g_env Γ) h0 h1 h2 h3 h4 h5 h6 o0 o1 o2 o3 o4 o5 o6 o7 o8 o9 o10 o11 (upd v_times (Int32.toNatClampNeg x5) r6) v_p1_dots v_p1_power v_p1_pulses_5 v_p2_queued v_p2_last v_p2_before v_p2_figures v_p2_queue) dX2_findTimes_57 1 rfl rfl f4 rfl ?_
      refine g_iload_n 58 X dX2_findTimes_58 4 rfl rfl ?_
      refine g_istore 59 X [(4, .int x3), (6, .int (v_p2_queue (Int32.toNatClampNeg x5))), (0, .ref h0), (1, .ref h2), (2, .ref h4), (3, .int x3), (5, .int x5)] dX2_findTimes_59 (Nat.le_of_ble_eq_true rfl) rfl ?_
      refine g_iload 61 X dX2_findTimes_61 1 rfl ?_
      refine g_istore_n 63 X [(3, .int (v_p2_queue (Int32.toNatClampNeg x5))), (4, .int x3), (6, .int (v_p2_queue (Int32.toNatClampNeg x5))), (0, .ref h0), (1, .ref h2), (2, .ref h4), (5, .int x5)] dX2_findTimes_63 rfl (Nat.le_of_ble_eq_true rfl) rfl ?_
      refine g_iinc 64 X (x5 + (1 : Int32)) [(5, .int (x5 + (1 : Int32))), (3, .int (v_p2_queue (Int32.toNatClampNeg x5))), (4, .int x3), (6, .int (v_p2_queue (Int32.toNatClampNeg x5))), (0, .ref h0), (1, .ref h2), (2, .ref h4)] dX2_findTimes_64 6 rfl (k_ii_1 _) (Nat.le_of_ble_eq_true rfl) rfl ?_
      refine g_goto 67 X 14 dX2_findTimes_67 (by decide) ?_
      refine g_sub [(0, .ref h0), (1, .ref h2), (2, .ref h4), (3, .int (v_p2_queue (Int32.toNatClampNeg x5))), (4, .int x3), (5, .int (x5 + (1 : Int32)))] [4, 5, 6, 1, 2, 0] rfl ?_
      exact ih (v_p2_queue (Int32.toNatClampNeg x5)) x3 (x5 + (1 : Int32)) (upd v_times (Int32.toNatClampNeg x5) r6) v_p1_pulses_5 h
set_option maxHeartbeats 4000000 in
set_option maxRecDepth 100000 in
theorem c_X2_findTimes {l : Launch} {E : g_E} (h0 : Nat) (h1 : Nat) (h2 : Nat) (h3 : Nat) (h4 : Nat) (h5 : Nat) (h6 : Nat) (o0 o1 o2 o3 o4 o5 o6 o7 o8 o9 o10 o11 : Value) (v_times : Nat → Int32) (v_p1_dots : Int32) (v_p1_power : Int32) (v_p1_pulses : Nat → Int32) (v_p2_queued : Int32) (v_p2_last : Int32) (v_p2_before : Int32) (v_p2_figures : Nat → Int32) (v_p2_queue : Nat → Int32) {K : (Nat → Int32) → (Nat → Int32) → Prop} (h : P_X2_findTimes v_times v_p1_dots v_p1_power v_p1_pulses v_p2_queued v_p2_last v_p2_before v_p2_figures v_p2_queue K) : g_CV l E yX2_findTimes cX2_findTimes 7 (g_Rm 2 47) [.ref h0, .ref h2, .ref h4] (W_X2_findTimes E h0 h1 h2 h3 h4 h5 h6 o0 o1 o2 o3 o4 o5 o6 o7 o8 o9 o10 o11 v_times v_p1_dots v_p1_power v_p1_pulses v_p2_queued v_p2_last v_p2_before v_p2_figures v_p2_queue) (fun (u : (Nat → Int32) × (Nat → Int32)) => K u.1 u.2) (fun (u : (Nat → Int32) × (Nat → Int32)) => (W_X2_findTimes E h0 h1 h2 h3 h4 h5 h6 o0 o1 o2 o3 o4 o5 o6 o7 o8 o9 o10 o11 u.1 v_p1_dots v_p1_power u.2 v_p2_queued v_p2_last v_p2_before v_p2_figures v_p2_queue)) := by
  refine g_entV RX2 (by decide) rfl (Nat.le_of_ble_eq_true rfl) ?_
  intro Γ X hE hl ret
  subst hE
  subst hl
  unfold P_X2_findTimes at h
  show g_G Γ (g_Rm 2 47) 7 0 [(0, .ref h0), (1, .ref h2), (2, .ref h4)] [] (W_X2_findTimes (g_env Γ) h0 h1 h2 h3 h4 h5 h6 o0 o1 o2 o3 o4 o5 o6 o7 o8 o9 o10 o11 v_times v_p1_dots v_p1_power v_p1_pulses v_p2_queued v_p2_last v_p2_before v_p2_figures v_p2_queue)
  refine g_aload_n 0 X dX2_findTimes_0 2 rfl rfl ?_
  refine g_get 1 X fa_X2_38 dX2_findTimes_1 4 rfl rfl ?_
  refine g_istore_n 4 X [(3, .int v_p2_last), (0, .ref h0), (1, .ref h2), (2, .ref h4)] dX2_findTimes_4 rfl (Nat.le_of_ble_eq_true rfl) rfl ?_
  refine g_aload_n 5 X dX2_findTimes_5 3 rfl rfl ?_
  refine g_get 6 X fa_X2_41 dX2_findTimes_6 4 rfl rfl ?_
  refine g_istore 9 X [(4, .int v_p2_before), (3, .int v_p2_last), (0, .ref h0), (1, .ref h2), (2, .ref h4)] dX2_findTimes_9 (Nat.le_of_ble_eq_true rfl) rfl ?_
  refine g_iconst 11 X (0 : Int32) dX2_findTimes_11 k_ic_0 ?_
  refine g_istore 12 X [(5, .int (0 : Int32)), (4, .int v_p2_before), (3, .int v_p2_last), (0, .ref h0), (1, .ref h2), (2, .ref h4)] dX2_findTimes_12 (Nat.le_of_ble_eq_true rfl) rfl ?_
  obtain ⟨n9, h⟩ := h
  refine g_sub [(0, .ref h0), (1, .ref h2), (2, .ref h4), (3, .int v_p2_last), (4, .int v_p2_before), (5, .int (0 : Int32))] [3, 4, 5, 2, 1, 0] rfl ?_
  refine l_X2_findTimes_14 X h0 h1 h2 h3 h4 h5 h6 o0 o1 o2 o3 o4 o5 o6 o7 o8 o9 o10 o11 v_p1_dots v_p1_power v_p2_queued v_p2_last v_p2_before v_p2_figures v_p2_queue (fun v_times_7 v_p1_pulses_8 h => ?_) n9 v_p2_last v_p2_before (0 : Int32) v_times v_p1_pulses h
  · exact ret 70 _ (v_times_7, v_p1_pulses_8) dX2_findTimes_70 h

def W_X2_mostAt (E : g_E) : va_W := []
def P_X2_mostAt (b0 : Int32) (K : Int32 → Prop) : Prop := K (if (1 : Int32) < ((9 : Int32) - (b0 / (9 : Int32))) then ((9 : Int32) - (b0 / (9 : Int32))) else (1 : Int32))
set_option maxHeartbeats 4000000 in
set_option maxRecDepth 100000 in
theorem c_X2_mostAt {l : Launch} {E : g_E} (b0 : Int32) {K : Int32 → Prop} (h : P_X2_mostAt b0 K) : g_CI l E yX2_mostAt cX2_mostAt 1 .int (g_Rm 1 24) [.int b0] (W_X2_mostAt E) (fun r (u : Unit) => K r) (fun (u : Unit) => (W_X2_mostAt E)) := by
  refine g_entI RX2 (by decide) rfl (Nat.le_of_ble_eq_true rfl) ?_
  intro Γ X hE hl ret
  subst hE
  subst hl
  unfold P_X2_mostAt at h
  show g_G Γ (g_Rm 1 24) 1 0 [(0, .int b0)] [] (W_X2_mostAt (g_env Γ))
  refine g_iconst 0 X (1 : Int32) dX2_mostAt_0 k_ic_1 ?_
  refine g_bipush 1 X (9 : Int32) dX2_mostAt_1 k_bp_9 ?_
  refine g_iload_n 3 X dX2_mostAt_3 0 rfl rfl ?_
  refine g_bipush 4 X (9 : Int32) dX2_mostAt_4 k_bp_9 ?_
  refine g_idiv 6 X dX2_mostAt_6 (by decide) ?_
  refine g_isub 7 X dX2_mostAt_7 ?_
  refine g_mmax 8 X dX2_mostAt_8 ml_X2_59 (Nat.le_of_ble_eq_true rfl) (Nat.le_of_ble_eq_true rfl) ?_
  exact ret 11 _ _ () dX2_mostAt_11 (vp_nar_int _) h

def W_X2_plan (E : g_E) (h0 : Nat) (h1 : Nat) (h2 : Nat) (h3 : Nat) (h4 : Nat) (h5 : Nat) (h6 : Nat) (h7 : Nat) (o0 o1 o2 o3 o4 o5 o6 o7 o8 o9 o10 : Value) (v_times : Nat → Int32) (v_speeds : Nat → Int32) (v_p1_dots : Int32) (v_p1_power : Int32) (v_p1_pulses : Nat → Int32) (v_p2_queued : Int32) (v_p2_last : Int32) (v_p2_before : Int32) (v_p2_figures : Nat → Int32) (v_p2_queue : Nat → Int32) : va_W := [(h0, .inr (2, [.ref h1, .ref h2])), (h1, .inl (E.2.1, 8, .inl v_times)), (h2, .inl (E.2.1, 8, .inl v_speeds)), (h3, .inr (1, [.ref h4, .int v_p1_dots, o0, .int v_p1_power, o1, o2, o3])), (h4, .inl (E.2.1, 8, .inl v_p1_pulses)), (h5, .inr (5, [o4, .ref h6, .ref h7, .int v_p2_queued, .int v_p2_last, .int v_p2_before, o5, o6, o7, o8, o9, o10])), (h6, .inl (E.2.1, 5, .inl v_p2_figures)), (h7, .inl (E.2.1, 8, .inl v_p2_queue))]
def P_X2_plan_L11 (v_times : Nat → Int32) (v_p2_queued : Int32) (C51 : (Nat → Int32) → Prop) : Nat → Int32 → Int32 → (Nat → Int32) → Prop
  | 0, _, _, _ => False
  | n + 1, x3, x4, v_speeds => ((v_p2_queued ≤ x4 → C51 v_speeds) ∧ (¬ v_p2_queued ≤ x4 → (vp_in x4 8 ∧ (P_X2_mostAt (v_times (Int32.toNatClampNeg x4)) (fun r4 => P_X2_plan_L11 v_times v_p2_queued C51 n (if r4 < (x3 + (1 : Int32)) then r4 else (x3 + (1 : Int32))) (x4 + (1 : Int32)) (upd v_speeds (Int32.toNatClampNeg x4) (if r4 < (x3 + (1 : Int32)) then r4 else (x3 + (1 : Int32)))))))))
def P_X2_plan_L61 (C94 : (Nat → Int32) → Prop) : Nat → Int32 → Int32 → (Nat → Int32) → Prop
  | 0, _, _, _ => False
  | n + 1, x3, x4, v_speeds => ((x4 < (0 : Int32) → C94 v_speeds) ∧ (¬ x4 < (0 : Int32) → (vp_in x4 8 ∧ P_X2_plan_L61 C94 n (if (v_speeds (Int32.toNatClampNeg x4)) < (x3 + (1 : Int32)) then (v_speeds (Int32.toNatClampNeg x4)) else (x3 + (1 : Int32))) (x4 + (-1 : Int32)) (upd v_speeds (Int32.toNatClampNeg x4) (if (v_speeds (Int32.toNatClampNeg x4)) < (x3 + (1 : Int32)) then (v_speeds (Int32.toNatClampNeg x4)) else (x3 + (1 : Int32)))))))
def P_X2_plan (v_times : Nat → Int32) (v_speeds : Nat → Int32) (v_p1_dots : Int32) (v_p1_power : Int32) (v_p1_pulses : Nat → Int32) (v_p2_queued : Int32) (v_p2_last : Int32) (v_p2_before : Int32) (v_p2_figures : Nat → Int32) (v_p2_queue : Nat → Int32) (K : (Nat → Int32) → (Nat → Int32) → (Nat → Int32) → Prop) : Prop := (P_X2_findTimes v_times v_p1_dots v_p1_power v_p1_pulses v_p2_queued v_p2_last v_p2_before v_p2_figures v_p2_queue (fun v_times_1 v_p1_pulses_2 => (∃ ne : Nat, P_X2_plan_L11 v_times_1 v_p2_queued (fun v_speeds_7 => (∃ ne : Nat, P_X2_plan_L61 (fun v_speeds_10 => K v_times_1 v_speeds_10 v_p1_pulses_2) ne (0 : Int32) (v_p2_queued - (1 : Int32)) v_speeds_7)) ne (0 : Int32) (0 : Int32) v_speeds)))
set_option maxHeartbeats 4000000 in
set_option maxRecDepth 100000 in
theorem l_X2_plan_11 {Γ : g_C} (X : g_X Γ (g_Rm 3 73) cX2_plan RX2 5) (h0 : Nat) (h1 : Nat) (h2 : Nat) (h3 : Nat) (h4 : Nat) (h5 : Nat) (h6 : Nat) (h7 : Nat) (o0 o1 o2 o3 o4 o5 o6 o7 o8 o9 o10 : Value) (v_times : Nat → Int32) (v_p1_dots : Int32) (v_p1_power : Int32) (v_p1_pulses : Nat → Int32) (v_p2_queued : Int32) (v_p2_last : Int32) (v_p2_before : Int32) (v_p2_figures : Nat → Int32) (v_p2_queue : Nat → Int32) {C51 : (Nat → Int32) → Prop} (hC51 : ∀ (v_speeds : Nat → Int32), C51 v_speeds → g_G Γ (g_Rm 3 73) 5 51 [(0, .ref h0), (2, .ref h5)] [] (W_X2_plan (g_env Γ) h0 h1 h2 h3 h4 h5 h6 h7 o0 o1 o2 o3 o4 o5 o6 o7 o8 o9 o10 v_times v_speeds v_p1_dots v_p1_power v_p1_pulses v_p2_queued v_p2_last v_p2_before v_p2_figures v_p2_queue)) : ∀ (n : Nat) (x3 : Int32) (x4 : Int32) (v_speeds : Nat → Int32), P_X2_plan_L11 v_times v_p2_queued C51 n x3 x4 v_speeds → g_G Γ (g_Rm 3 73) 5 11 [(0, .ref h0), (2, .ref h5), (3, .int x3), (4, .int x4)] [] (W_X2_plan (g_env Γ) h0 h1 h2 h3 h4 h5 h6 h7 o0 o1 o2 o3 o4 o5 o6 o7 o8 o9 o10 v_times v_speeds v_p1_dots v_p1_power v_p1_pulses v_p2_queued v_p2_last v_p2_before v_p2_figures v_p2_queue) := by
  intro n
  induction n with
  | zero => intro x3 x4 v_speeds h; exact False.elim h
  | succ n ih =>
    intro x3 x4 v_speeds h
    unfold P_X2_plan_L11 at h
    refine g_iload 11 X dX2_plan_11 3 rfl ?_
    refine g_aload_n 13 X dX2_plan_13 1 rfl rfl ?_
    refine g_get 14 X fa_X2_22 dX2_plan_14 5 rfl rfl ?_
    refine g_icmp_ge 17 X 51 dX2_plan_17 (by decide) (fun c => ?_) (fun c => ?_)
    · replace h := h.1 c
      refine g_sub [(0, .ref h0), (2, .ref h5)] [0, 1] rfl ?_
      exact hC51 v_speeds h
    · replace h := h.2 c
      refine g_iload_n 20 X dX2_plan_20 2 rfl rfl ?_
      refine g_iconst 21 X (1 : Int32) dX2_plan_21 k_ic_1 ?_
      refine g_iadd 22 X dX2_plan_22 ?_
      refine g_aload_n 23 X dX2_plan_23 0 rfl rfl ?_
      refine g_get 24 X fa_X2_9 dX2_plan_24 0 rfl rfl ?_
      refine g_iload 27 X dX2_plan_27 3 rfl ?_
      have f5 := h.1; replace h := h.2
      refine g_iald 29 X dX2_plan_29 1 rfl rfl f5 ?_
      refine g_cSI 30 X (st := [.int (x3 + (1 : Int32))]) mv_X2_28 dX2_plan_30 [.int (v_times (Int32.toNatClampNeg x4))] (c_X2_mostAt (v_times (Int32.toNatClampNeg x4)) h) [] (fun u : Unit => (W_X2_plan (g_env Γ) h0 h1 h2 h3 h4 h5 h6 h7 o0 o1 o2 o3 o4 o5 o6 o7 o8 o9 o10 v_times v_speeds v_p1_dots v_p1_power v_p1_pulses v_p2_queued v_p2_last v_p2_before v_p2_figures v_p2_queue)) rfl ⟨(Nat.le_of_ble_eq_true rfl), (Nat.le_of_ble_eq_true rfl)⟩ ⟨rfl, rfl⟩ (Nat.le_of_ble_eq_true rfl) rfl (by decide) (fun _ => rfl) (fun _ => rfl) (fun r6 u h => ?_)
      refine g_mmin 33 X dX2_plan_33 ml_X2_32 (Nat.le_of_ble_eq_true rfl) (Nat.le_of_ble_eq_true rfl) ?_
      refine g_istore_n 36 X [(3, .int (if r6 < (x3 + (1 : Int32)) then r6 else (x3 + (1 : Int32)))), (0, .ref h0), (2, .ref h5), (4, .int x4)] dX2_plan_36 rfl (Nat.le_of_ble_eq_true rfl) rfl ?_
      refine g_aload_n 37 X dX2_plan_37 1 rfl rfl ?_
      refine g_get 38 X fa_X2_15 dX2_plan_38 0 rfl rfl ?_
      refine g_iload 41 X dX2_plan_41 3 rfl ?_
      refine g_iload_n 43 X dX2_plan_43 0 rfl rfl ?_
      refine g_iast 44 X (W_X2_plan (g_env Γ) h0 h1 h2 h3 h4 h5 h6 h7 o0 o1 o2 o3 o4 o5 o6 o7 o8 o9 o10 v_times (upd v_speeds (Int32.toNatClampNeg x4) (if r6 < (x3 + (1 : Int32)) then r6 else (x3 + (1 : Int32)))) v_p1_dots v_p1_power v_p1_pulses v_p2_queued v_p2_last v_p2_before v_p2_figures v_p2_queue) dX2_plan_44 2 rfl rfl f5 rfl ?_
      refine g_iinc 45 X (x4 + (1 : Int32)) [(4, .int (x4 + (1 : Int32))), (3, .int (if r6 < (x3 + (1 : Int32)) then r6 else (x3 + (1 : Int32)))), (0, .ref h0), (2, .ref h5)] dX2_plan_45 3 rfl (k_ii_1 _) (Nat.le_of_ble_eq_true rfl) rfl ?_
      refine g_goto 48 X 11 dX2_plan_48 (by decide) ?_
      refine g_sub [(0, .ref h0), (2, .ref h5), (3, .int (if r6 < (x3 + (1 : Int32)) then r6 else (x3 + (1 : Int32)))), (4, .int (x4 + (1 : Int32)))] [2, 3, 1, 0] rfl ?_
      exact ih (if r6 < (x3 + (1 : Int32)) then r6 else (x3 + (1 : Int32))) (x4 + (1 : Int32)) (upd v_speeds (Int32.toNatClampNeg x4) (if r6 < (x3 + (1 : Int32)) then r6 else (x3 + (1 : Int32)))) h
set_option maxHeartbeats 4000000 in
set_option maxRecDepth 100000 in
theorem l_X2_plan_61 {Γ : g_C} (X : g_X Γ (g_Rm 3 73) cX2_plan RX2 5) (h0 : Nat) (h1 : Nat) (h2 : Nat) (h3 : Nat) (h4 : Nat) (h5 : Nat) (h6 : Nat) (h7 : Nat) (o0 o1 o2 o3 o4 o5 o6 o7 o8 o9 o10 : Value) (v_times : Nat → Int32) (v_p1_dots : Int32) (v_p1_power : Int32) (v_p1_pulses : Nat → Int32) (v_p2_queued : Int32) (v_p2_last : Int32) (v_p2_before : Int32) (v_p2_figures : Nat → Int32) (v_p2_queue : Nat → Int32) {C94 : (Nat → Int32) → Prop} (hC94 : ∀ (v_speeds : Nat → Int32), C94 v_speeds → g_G Γ (g_Rm 3 73) 5 94 [] [] (W_X2_plan (g_env Γ) h0 h1 h2 h3 h4 h5 h6 h7 o0 o1 o2 o3 o4 o5 o6 o7 o8 o9 o10 v_times v_speeds v_p1_dots v_p1_power v_p1_pulses v_p2_queued v_p2_last v_p2_before v_p2_figures v_p2_queue)) : ∀ (n : Nat) (x3 : Int32) (x4 : Int32) (v_speeds : Nat → Int32), P_X2_plan_L61 C94 n x3 x4 v_speeds → g_G Γ (g_Rm 3 73) 5 61 [(0, .ref h0), (3, .int x3), (4, .int x4)] [] (W_X2_plan (g_env Γ) h0 h1 h2 h3 h4 h5 h6 h7 o0 o1 o2 o3 o4 o5 o6 o7 o8 o9 o10 v_times v_speeds v_p1_dots v_p1_power v_p1_pulses v_p2_queued v_p2_last v_p2_before v_p2_figures v_p2_queue) := by
  intro n
  induction n with
  | zero => intro x3 x4 v_speeds h; exact False.elim h
  | succ n ih =>
    intro x3 x4 v_speeds h
    unfold P_X2_plan_L61 at h
    refine g_iload 61 X dX2_plan_61 2 rfl ?_
    refine g_if_lt 63 X 94 dX2_plan_63 (by decide) (fun c => ?_) (fun c => ?_)
    · replace h := h.1 c
      refine g_sub [] [] rfl ?_
      exact hC94 v_speeds h
    · replace h := h.2 c
      refine g_iload_n 66 X dX2_plan_66 1 rfl rfl ?_
      refine g_iconst 67 X (1 : Int32) dX2_plan_67 k_ic_1 ?_
      refine g_iadd 68 X dX2_plan_68 ?_
      refine g_aload_n 69 X dX2_plan_69 0 rfl rfl ?_
      refine g_get 70 X fa_X2_15 dX2_plan_70 0 rfl rfl ?_
      refine g_iload 73 X dX2_plan_73 2 rfl ?_
      have f9 := h.1; replace h := h.2
      refine g_iald 75 X dX2_plan_75 2 rfl rfl f9 ?_
      refine g_mmin 76 X dX2_plan_76 ml_X2_32 (Nat.le_of_ble_eq_true rfl) (Nat.le_of_ble_eq_true rfl) ?_
      refine g_istore_n 79 X [(3, .int (if (v_speeds (Int32.toNatClampNeg x4)) < (x3 + (1 : Int32)) then (v_speeds (Int32.toNatClampNeg x4)) else (x3 + (1 : Int32)))), (0, .ref h0), (4, .int x4)] dX2_plan_79 rfl (Nat.le_of_ble_eq_true rfl) rfl ?_
      refine g_aload_n 80 X dX2_plan_80 1 rfl rfl ?_
      refine g_get 81 X fa_X2_15 dX2_plan_81 0 rfl rfl ?_
      refine g_iload 84 X dX2_plan_84 2 rfl ?_
      refine g_iload_n 86 X dX2_plan_86 0 rfl rfl ?_
      refine g_iast 87 X (W_X2_plan (g_env Γ) h0 h1 h2 h3 h4 h5 h6 h7 o0 o1 o2 o3 o4 o5 o6 o7 o8 o9 o10 v_times (upd v_speeds (Int32.toNatClampNeg x4) (if (v_speeds (Int32.toNatClampNeg x4)) < (x3 + (1 : Int32)) then (v_speeds (Int32.toNatClampNeg x4)) else (x3 + (1 : Int32)))) v_p1_dots v_p1_power v_p1_pulses v_p2_queued v_p2_last v_p2_before v_p2_figures v_p2_queue) dX2_plan_87 2 rfl rfl f9 rfl ?_
      refine g_iinc 88 X (x4 + (-1 : Int32)) [(4, .int (x4 + (-1 : Int32))), (3, .int (if (v_speeds (Int32.toNatClampNeg x4)) < (x3 + (1 : Int32)) then (v_speeds (Int32.toNatClampNeg x4)) else (x3 + (1 : Int32)))), (0, .ref h0)] dX2_plan_88 2 rfl (k_ii_m1 _) (Nat.le_of_ble_eq_true rfl) rfl ?_
      refine g_goto 91 X 61 dX2_plan_91 (by decide) ?_
      refine g_sub [(0, .ref h0), (3, .int (if (v_speeds (Int32.toNatClampNeg x4)) < (x3 + (1 : Int32)) then (v_speeds (Int32.toNatClampNeg x4)) else (x3 + (1 : Int32)))), (4, .int (x4 + (-1 : Int32)))] [2, 1, 0] rfl ?_
      exact ih (if (v_speeds (Int32.toNatClampNeg x4)) < (x3 + (1 : Int32)) then (v_speeds (Int32.toNatClampNeg x4)) else (x3 + (1 : Int32))) (x4 + (-1 : Int32)) (upd v_speeds (Int32.toNatClampNeg x4) (if (v_speeds (Int32.toNatClampNeg x4)) < (x3 + (1 : Int32)) then (v_speeds (Int32.toNatClampNeg x4)) else (x3 + (1 : Int32)))) h
set_option maxHeartbeats 4000000 in
set_option maxRecDepth 100000 in
theorem c_X2_plan {l : Launch} {E : g_E} (h0 : Nat) (h1 : Nat) (h2 : Nat) (h3 : Nat) (h4 : Nat) (h5 : Nat) (h6 : Nat) (h7 : Nat) (o0 o1 o2 o3 o4 o5 o6 o7 o8 o9 o10 : Value) (v_times : Nat → Int32) (v_speeds : Nat → Int32) (v_p1_dots : Int32) (v_p1_power : Int32) (v_p1_pulses : Nat → Int32) (v_p2_queued : Int32) (v_p2_last : Int32) (v_p2_before : Int32) (v_p2_figures : Nat → Int32) (v_p2_queue : Nat → Int32) {K : (Nat → Int32) → (Nat → Int32) → (Nat → Int32) → Prop} (h : P_X2_plan v_times v_speeds v_p1_dots v_p1_power v_p1_pulses v_p2_queued v_p2_last v_p2_before v_p2_figures v_p2_queue K) : g_CV l E yX2_plan cX2_plan 5 (g_Rm 3 73) [.ref h0, .ref h3, .ref h5] (W_X2_plan E h0 h1 h2 h3 h4 h5 h6 h7 o0 o1 o2 o3 o4 o5 o6 o7 o8 o9 o10 v_times v_speeds v_p1_dots v_p1_power v_p1_pulses v_p2_queued v_p2_last v_p2_before v_p2_figures v_p2_queue) (fun (u : (Nat → Int32) × (Nat → Int32) × (Nat → Int32)) => K u.1 u.2.1 u.2.2) (fun (u : (Nat → Int32) × (Nat → Int32) × (Nat → Int32)) => (W_X2_plan E h0 h1 h2 h3 h4 h5 h6 h7 o0 o1 o2 o3 o4 o5 o6 o7 o8 o9 o10 u.1 u.2.1 v_p1_dots v_p1_power u.2.2 v_p2_queued v_p2_last v_p2_before v_p2_figures v_p2_queue)) := by
  refine g_entV RX2 (by decide) rfl (Nat.le_of_ble_eq_true rfl) ?_
  intro Γ X hE hl ret
  subst hE
  subst hl
  unfold P_X2_plan at h
  show g_G Γ (g_Rm 3 73) 5 0 [(0, .ref h0), (1, .ref h3), (2, .ref h5)] [] (W_X2_plan (g_env Γ) h0 h1 h2 h3 h4 h5 h6 h7 o0 o1 o2 o3 o4 o5 o6 o7 o8 o9 o10 v_times v_speeds v_p1_dots v_p1_power v_p1_pulses v_p2_queued v_p2_last v_p2_before v_p2_figures v_p2_queue)
  refine g_aload_n 0 X dX2_plan_0 0 rfl rfl ?_
  refine g_aload_n 1 X dX2_plan_1 1 rfl rfl ?_
  refine g_aload_n 2 X dX2_plan_2 2 rfl rfl ?_
  refine g_cVV 3 X (st := []) mv_X2_18 dX2_plan_3 h0 2 [.ref h3, .ref h5] (c_X2_findTimes h0 h1 h3 h4 h5 h6 h7 (.ref h2) o0 o1 o2 o3 o4 o5 o6 o7 o8 o9 o10 v_times v_p1_dots v_p1_power v_p1_pulses v_p2_queued v_p2_last v_p2_before v_p2_figures v_p2_queue h) [0, 1, 3, 4, 5, 6, 7] (fun u : (Nat → Int32) × (Nat → Int32) => (W_X2_plan (g_env Γ) h0 h1 h2 h3 h4 h5 h6 h7 o0 o1 o2 o3 o4 o5 o6 o7 o8 o9 o10 u.1 v_speeds v_p1_dots v_p1_power u.2 v_p2_queued v_p2_last v_p2_before v_p2_figures v_p2_queue)) rfl ⟨(Nat.le_of_ble_eq_true rfl), (Nat.le_of_ble_eq_true rfl)⟩ ⟨rfl, rfl⟩ (Nat.le_of_ble_eq_true rfl) rfl rfl rfl (by decide) (fun _ => rfl) (fun _ => rfl) (fun u h => ?_)
  obtain ⟨v_times_1, v_p1_pulses_2⟩ := u
  dsimp only at h ⊢
  refine g_iconst 6 X (0 : Int32) dX2_plan_6 k_ic_0 ?_
  refine g_istore_n 7 X [(3, .int (0 : Int32)), (0, .ref h0), (1, .ref h3), (2, .ref h5)] dX2_plan_7 rfl (Nat.le_of_ble_eq_true rfl) rfl ?_
  refine g_iconst 8 X (0 : Int32) dX2_plan_8 k_ic_0 ?_
  refine g_istore 9 X [(4, .int (0 : Int32)), (3, .int (0 : Int32)), (0, .ref h0), (1, .ref h3), (2, .ref h5)] dX2_plan_9 (Nat.le_of_ble_eq_true rfl) rfl ?_
  obtain ⟨n12, h⟩ := h
  refine g_sub [(0, .ref h0), (2, .ref h5), (3, .int (0 : Int32)), (4, .int (0 : Int32))] [2, 4, 1, 0] rfl ?_
  refine l_X2_plan_11 X h0 h1 h2 h3 h4 h5 h6 h7 o0 o1 o2 o3 o4 o5 o6 o7 o8 o9 o10 v_times_1 v_p1_dots v_p1_power v_p1_pulses_2 v_p2_queued v_p2_last v_p2_before v_p2_figures v_p2_queue (fun v_speeds_7 h => ?_) n12 (0 : Int32) (0 : Int32) v_speeds h
  · refine g_iconst 51 X (0 : Int32) dX2_plan_51 k_ic_0 ?_
    refine g_istore_n 52 X [(3, .int (0 : Int32)), (0, .ref h0), (2, .ref h5)] dX2_plan_52 rfl (Nat.le_of_ble_eq_true rfl) rfl ?_
    refine g_aload_n 53 X dX2_plan_53 2 rfl rfl ?_
    refine g_get 54 X fa_X2_22 dX2_plan_54 5 rfl rfl ?_
    refine g_iconst 57 X (1 : Int32) dX2_plan_57 k_ic_1 ?_
    refine g_isub 58 X dX2_plan_58 ?_
    refine g_istore 59 X [(4, .int (v_p2_queued - (1 : Int32))), (3, .int (0 : Int32)), (0, .ref h0), (2, .ref h5)] dX2_plan_59 (Nat.le_of_ble_eq_true rfl) rfl ?_
    obtain ⟨n11, h⟩ := h
    refine g_sub [(0, .ref h0), (3, .int (0 : Int32)), (4, .int (v_p2_queued - (1 : Int32)))] [2, 1, 0] rfl ?_
    refine l_X2_plan_61 X h0 h1 h2 h3 h4 h5 h6 h7 o0 o1 o2 o3 o4 o5 o6 o7 o8 o9 o10 v_times_1 v_p1_dots v_p1_power v_p1_pulses_2 v_p2_queued v_p2_last v_p2_before v_p2_figures v_p2_queue (fun v_speeds_10 h => ?_) n11 (0 : Int32) (v_p2_queued - (1 : Int32)) v_speeds_7 h
    · exact ret 94 _ (v_times_1, v_speeds_10, v_p1_pulses_2) dX2_plan_94 h

def W_X3_append (E : g_E) (h0 : Nat) (h1 : Nat) (h2 : Nat) (h3 : Nat) (v_z_count : Int32) (v_dots : Nat → Int32) (v_lines : Nat → Int32) (v_heats : Nat → Int32) : va_W := [(h0, .inr (3, [.ref h1, .ref h2, .ref h3, .int v_z_count])), (h1, .inl (E.2.1, 6, .inl v_dots)), (h2, .inl (E.2.1, 6, .inl v_lines)), (h3, .inl (E.2.1, 6, .inl v_heats))]
def P_X3_append (b1 : Int32) (b2 : Int32) (b3 : Int32) (v_z_count : Int32) (v_dots : Nat → Int32) (v_lines : Nat → Int32) (v_heats : Nat → Int32) (K : Int32 → Int32 → (Nat → Int32) → (Nat → Int32) → (Nat → Int32) → Prop) : Prop := ((v_z_count < (6 : Int32) → (vp_in v_z_count 6 ∧ K (1 : Int32) (v_z_count + (1 : Int32)) (upd v_dots (Int32.toNatClampNeg v_z_count) b1) (upd v_lines (Int32.toNatClampNeg v_z_count) b2) (upd v_heats (Int32.toNatClampNeg v_z_count) b3))) ∧ (¬ v_z_count < (6 : Int32) → K (0 : Int32) v_z_count v_dots v_lines v_heats))
set_option maxHeartbeats 4000000 in
set_option maxRecDepth 100000 in
theorem c_X3_append {l : Launch} {E : g_E} (h0 : Nat) (h1 : Nat) (h2 : Nat) (h3 : Nat) (v_z_count : Int32) (v_dots : Nat → Int32) (v_lines : Nat → Int32) (v_heats : Nat → Int32) (b1 : Int32) (b2 : Int32) (b3 : Int32) {K : Int32 → Int32 → (Nat → Int32) → (Nat → Int32) → (Nat → Int32) → Prop} (h : P_X3_append b1 b2 b3 v_z_count v_dots v_lines v_heats K) : g_CI l E yX3_append cX3_append 4 .boolean (g_Rm 0 0) [.ref h0, .int b1, .int b2, .int b3] (W_X3_append E h0 h1 h2 h3 v_z_count v_dots v_lines v_heats) (fun r (u : Int32 × (Nat → Int32) × (Nat → Int32) × (Nat → Int32)) => K r u.1 u.2.1 u.2.2.1 u.2.2.2) (fun (u : Int32 × (Nat → Int32) × (Nat → Int32) × (Nat → Int32)) => (W_X3_append E h0 h1 h2 h3 u.1 u.2.1 u.2.2.1 u.2.2.2)) := by
  refine g_entI RX3 (by decide) rfl (Nat.le_of_ble_eq_true rfl) ?_
  intro Γ X hE hl ret
  subst hE
  subst hl
  unfold P_X3_append at h
  show g_G Γ (g_Rm 0 0) 4 0 [(0, .ref h0), (1, .int b1), (2, .int b2), (3, .int b3)] [] (W_X3_append (g_env Γ) h0 h1 h2 h3 v_z_count v_dots v_lines v_heats)
  refine g_aload_n 0 X dX3_append_0 0 rfl rfl ?_
  refine g_get 1 X fa_X3_21 dX3_append_1 0 rfl rfl ?_
  refine g_bipush 4 X (6 : Int32) dX3_append_4 k_bp_6 ?_
  refine g_icmp_lt 6 X 11 dX3_append_6 (by decide) (fun c => ?_) (fun c => ?_)
  · replace h := h.1 c
    refine g_aload_n 11 X dX3_append_11 0 rfl rfl ?_
    refine g_get 12 X fa_X3_9 dX3_append_12 0 rfl rfl ?_
    refine g_aload_n 15 X dX3_append_15 0 rfl rfl ?_
    refine g_get 16 X fa_X3_21 dX3_append_16 0 rfl rfl ?_
    refine g_iload_n 19 X dX3_append_19 1 rfl rfl ?_
    have f1 := h.1; replace h := h.2
    refine g_iast 20 X (W_X3_append (g_env Γ) h0 h1 h2 h3 v_z_count (upd v_dots (Int32.toNatClampNeg v_z_count) b1) v_lines v_heats) dX3_append_20 1 rfl rfl f1 rfl ?_
    refine g_aload_n 21 X dX3_append_21 0 rfl rfl ?_
    refine g_get 22 X fa_X3_15 dX3_append_22 0 rfl rfl ?_
    refine g_aload_n 25 X dX3_append_25 0 rfl rfl ?_
    refine g_get 26 X fa_X3_21 dX3_append_26 0 rfl rfl ?_
    refine g_iload_n 29 X dX3_append_29 2 rfl rfl ?_
    refine g_iast 30 X (W_X3_append (g_env Γ) h0 h1 h2 h3 v_z_count (upd v_dots (Int32.toNatClampNeg v_z_count) b1) (upd v_lines (Int32.toNatClampNeg v_z_count) b2) v_heats) dX3_append_30 2 rfl rfl f1 rfl ?_
    refine g_aload_n 31 X dX3_append_31 0 rfl rfl ?_
    refine g_get 32 X fa_X3_18 dX3_append_32 0 rfl rfl ?_
    refine g_aload_n 35 X dX3_append_35 0 rfl rfl ?_
    refine g_get 36 X fa_X3_21 dX3_append_36 0 rfl rfl ?_
    refine g_iload_n 39 X dX3_append_39 3 rfl rfl ?_
    refine g_iast 40 X (W_X3_append (g_env Γ) h0 h1 h2 h3 v_z_count (upd v_dots (Int32.toNatClampNeg v_z_count) b1) (upd v_lines (Int32.toNatClampNeg v_z_count) b2) (upd v_heats (Int32.toNatClampNeg v_z_count) b3)) dX3_append_40 3 rfl rfl f1 rfl ?_
    refine g_aload_n 41 X dX3_append_41 0 rfl rfl ?_
    refine g_dup 42 X dX3_append_42 rfl ?_
    refine g_get 43 X fa_X3_21 dX3_append_43 0 rfl rfl ?_
    refine g_iconst 46 X (1 : Int32) dX3_append_46 k_ic_1 ?_
    refine g_iadd 47 X dX3_append_47 ?_
    refine g_put 48 X (W_X3_append (g_env Γ) h0 h1 h2 h3 (v_z_count + (1 : Int32)) (upd v_dots (Int32.toNatClampNeg v_z_count) b1) (upd v_lines (Int32.toNatClampNeg v_z_count) b2) (upd v_heats (Int32.toNatClampNeg v_z_count) b3)) fa_X3_21 pa_3_3 dX3_append_48 0 rfl rfl rfl (Nat.le_of_ble_eq_true rfl) rfl ?_
    refine g_iconst 51 X (1 : Int32) dX3_append_51 k_ic_1 ?_
    exact ret 52 _ _ ((v_z_count + (1 : Int32)), (upd v_dots (Int32.toNatClampNeg v_z_count) b1), (upd v_lines (Int32.toNatClampNeg v_z_count) b2), (upd v_heats (Int32.toNatClampNeg v_z_count) b3)) dX3_append_52 (by decide) h
  · replace h := h.2 c
    refine g_iconst 9 X (0 : Int32) dX3_append_9 k_ic_0 ?_
    exact ret 10 _ _ (v_z_count, v_dots, v_lines, v_heats) dX3_append_10 (by decide) h

def W_X4_isSlot (E : g_E) : va_W := []
def P_X4_isSlot (b0 : Int32) (K : Int32 → Prop) : Prop := ((b0 < (0 : Int32) → K (0 : Int32)) ∧ (¬ b0 < (0 : Int32) → (((2 : Int32) ≤ b0 → K (0 : Int32)) ∧ (¬ (2 : Int32) ≤ b0 → K (1 : Int32)))))
set_option maxHeartbeats 4000000 in
set_option maxRecDepth 100000 in
theorem c_X4_isSlot {l : Launch} {E : g_E} (b0 : Int32) {K : Int32 → Prop} (h : P_X4_isSlot b0 K) : g_CI l E yX4_isSlot cX4_isSlot 1 .boolean (g_Rm 0 0) [.int b0] (W_X4_isSlot E) (fun r (u : Unit) => K r) (fun (u : Unit) => (W_X4_isSlot E)) := by
  refine g_entI RX4 (by decide) rfl (Nat.le_of_ble_eq_true rfl) ?_
  intro Γ X hE hl ret
  subst hE
  subst hl
  unfold P_X4_isSlot at h
  show g_G Γ (g_Rm 0 0) 1 0 [(0, .int b0)] [] (W_X4_isSlot (g_env Γ))
  refine g_iload_n 0 X dX4_isSlot_0 0 rfl rfl ?_
  refine g_if_lt 1 X 13 dX4_isSlot_1 (by decide) (fun c => ?_) (fun c => ?_)
  · replace h := h.1 c
    refine g_iconst 13 X (0 : Int32) dX4_isSlot_13 k_ic_0 ?_
    exact ret 14 _ _ () dX4_isSlot_14 (by decide) h
  · replace h := h.2 c
    refine g_iload_n 4 X dX4_isSlot_4 0 rfl rfl ?_
    refine g_iconst 5 X (2 : Int32) dX4_isSlot_5 k_ic_2 ?_
    refine g_icmp_ge 6 X 13 dX4_isSlot_6 (by decide) (fun c => ?_) (fun c => ?_)
    · replace h := h.1 c
      refine g_iconst 13 X (0 : Int32) dX4_isSlot_13 k_ic_0 ?_
      exact ret 14 _ _ () dX4_isSlot_14 (by decide) h
    · replace h := h.2 c
      refine g_iconst 9 X (1 : Int32) dX4_isSlot_9 k_ic_1 ?_
      refine g_goto 10 X 14 dX4_isSlot_10 (by decide) ?_
      exact ret 14 _ _ () dX4_isSlot_14 (by decide) h

def W_X4_store (E : g_E) (h0 : Nat) (h1 : Nat) (q2 : Nat → Nat → Nat) (h3 : Nat) (h4 : Nat) (h5 : Nat) (h6 : Nat) (h7 : Nat) (w_states_el_H : Nat → Nat → Int32) (w_states_el_F : Nat → Nat → Int32) (w_states_el_Q : Nat → Nat → Int32) (w_states_el_I : Nat → Nat → Int32) (v_filled : Nat → Int32) (v_p2_queued : Int32) (v_p2_last : Int32) (v_p2_before : Int32) (v_p2_ribbon : Int32) (v_p2_right : Int32) (v_p2_pale : Int32) (v_p2_dark : Int32) (v_p2_ghosts : Int32) (v_p2_printed : Int32) (v_p2_heats : Nat → Int32) (v_p2_figures : Nat → Int32) (v_p2_queue : Nat → Int32) : va_W := [(h0, .inr (4, [.ref h1, .ref h3])), (h1, .inl (E.2.2.2.1, 2, .inr (.inr (.inr (.inr (fun k => some (q2 k 0)))))))] ++ g_pool E q2 w_states_el_H w_states_el_F w_states_el_Q w_states_el_I 2 ++ [(h3, .inl (E.2.2.1, 2, .inl v_filled)), (h4, .inr (5, [.ref h5, .ref h6, .ref h7, .int v_p2_queued, .int v_p2_last, .int v_p2_before, .int v_p2_ribbon, .int v_p2_right, .int v_p2_pale, .int v_p2_dark, .int v_p2_ghosts, .int v_p2_printed])), (h5, .inl (E.2.1, 8, .inl v_p2_heats)), (h6, .inl (E.2.1, 5, .inl v_p2_figures)), (h7, .inl (E.2.1, 8, .inl v_p2_queue))]
def P_X4_store (b1 : Int32) (w_states_el_H : Nat → Nat → Int32) (w_states_el_F : Nat → Nat → Int32) (w_states_el_Q : Nat → Nat → Int32) (w_states_el_I : Nat → Nat → Int32) (v_filled : Nat → Int32) (v_p2_queued : Int32) (v_p2_last : Int32) (v_p2_before : Int32) (v_p2_ribbon : Int32) (v_p2_right : Int32) (v_p2_pale : Int32) (v_p2_dark : Int32) (v_p2_ghosts : Int32) (v_p2_printed : Int32) (v_p2_heats : Nat → Int32) (v_p2_figures : Nat → Int32) (v_p2_queue : Nat → Int32) (K : (Nat → Nat → Int32) → (Nat → Nat → Int32) → (Nat → Nat → Int32) → (Nat → Nat → Int32) → (Nat → Int32) → Prop) : Prop := (P_X4_isSlot b1 (fun r1 => ((r1 = (0 : Int32) → K w_states_el_H w_states_el_F w_states_el_Q w_states_el_I v_filled) ∧ (¬ r1 = (0 : Int32) → (vp_in b1 2 ∧ (∀ k : Nat, k < 2 → b1 = nI k → (P_X5_copyFrom (w_states_el_I k 3) (w_states_el_I k 4) (w_states_el_I k 5) (w_states_el_I k 6) (w_states_el_I k 7) (w_states_el_I k 8) (w_states_el_I k 9) (w_states_el_I k 10) (w_states_el_I k 11) (w_states_el_H k) (w_states_el_F k) (w_states_el_Q k) v_p2_queued v_p2_last v_p2_before v_p2_ribbon v_p2_right v_p2_pale v_p2_dark v_p2_ghosts v_p2_printed v_p2_heats v_p2_figures v_p2_queue (fun e_3_3 e_4_4 e_5_5 e_6_6 e_7_7 e_8_8 e_9_9 e_10_10 e_11_11 e_heats_12 e_figures_13 e_queue_14 => K (va_up w_states_el_H k e_heats_12) (va_up w_states_el_F k e_figures_13) (va_up w_states_el_Q k e_queue_14) (va_up w_states_el_I k (g_i9 e_3_3 e_4_4 e_5_5 e_6_6 e_7_7 e_8_8 e_9_9 e_10_10 e_11_11)) (upd v_filled (Int32.toNatClampNeg b1) (vp_nar .boolean (1 : Int32)))))))))))
set_option maxHeartbeats 4000000 in
set_option maxRecDepth 100000 in
theorem c_X4_store {l : Launch} {E : g_E} (h0 : Nat) (h1 : Nat) (q2 : Nat → Nat → Nat) (h3 : Nat) (h4 : Nat) (h5 : Nat) (h6 : Nat) (h7 : Nat) (w_states_el_H : Nat → Nat → Int32) (w_states_el_F : Nat → Nat → Int32) (w_states_el_Q : Nat → Nat → Int32) (w_states_el_I : Nat → Nat → Int32) (v_filled : Nat → Int32) (v_p2_queued : Int32) (v_p2_last : Int32) (v_p2_before : Int32) (v_p2_ribbon : Int32) (v_p2_right : Int32) (v_p2_pale : Int32) (v_p2_dark : Int32) (v_p2_ghosts : Int32) (v_p2_printed : Int32) (v_p2_heats : Nat → Int32) (v_p2_figures : Nat → Int32) (v_p2_queue : Nat → Int32) (b1 : Int32) {K : (Nat → Nat → Int32) → (Nat → Nat → Int32) → (Nat → Nat → Int32) → (Nat → Nat → Int32) → (Nat → Int32) → Prop} (h : P_X4_store b1 w_states_el_H w_states_el_F w_states_el_Q w_states_el_I v_filled v_p2_queued v_p2_last v_p2_before v_p2_ribbon v_p2_right v_p2_pale v_p2_dark v_p2_ghosts v_p2_printed v_p2_heats v_p2_figures v_p2_queue K) : g_CV l E yX4_store cX4_store 3 (g_Rm 2 61) [.ref h0, .int b1, .ref h4] (W_X4_store E h0 h1 q2 h3 h4 h5 h6 h7 w_states_el_H w_states_el_F w_states_el_Q w_states_el_I v_filled v_p2_queued v_p2_last v_p2_before v_p2_ribbon v_p2_right v_p2_pale v_p2_dark v_p2_ghosts v_p2_printed v_p2_heats v_p2_figures v_p2_queue) (fun (u : (Nat → Nat → Int32) × (Nat → Nat → Int32) × (Nat → Nat → Int32) × (Nat → Nat → Int32) × (Nat → Int32)) => K u.1 u.2.1 u.2.2.1 u.2.2.2.1 u.2.2.2.2) (fun (u : (Nat → Nat → Int32) × (Nat → Nat → Int32) × (Nat → Nat → Int32) × (Nat → Nat → Int32) × (Nat → Int32)) => (W_X4_store E h0 h1 q2 h3 h4 h5 h6 h7 u.1 u.2.1 u.2.2.1 u.2.2.2.1 u.2.2.2.2 v_p2_queued v_p2_last v_p2_before v_p2_ribbon v_p2_right v_p2_pale v_p2_dark v_p2_ghosts v_p2_printed v_p2_heats v_p2_figures v_p2_queue)) := by
  refine g_entV RX4 (by decide) rfl (Nat.le_of_ble_eq_true rfl) ?_
  intro Γ X hE hl ret
  subst hE
  subst hl
  unfold P_X4_store at h
  show g_G Γ (g_Rm 2 61) 3 0 [(0, .ref h0), (1, .int b1), (2, .ref h4)] [] (W_X4_store (g_env Γ) h0 h1 q2 h3 h4 h5 h6 h7 w_states_el_H w_states_el_F w_states_el_Q w_states_el_I v_filled v_p2_queued v_p2_last v_p2_before v_p2_ribbon v_p2_right v_p2_pale v_p2_dark v_p2_ghosts v_p2_printed v_p2_heats v_p2_figures v_p2_queue)
  refine g_iload_n 0 X dX4_store_0 1 rfl rfl ?_
  refine g_cSI 1 X (st := []) mv_X4_22 dX4_store_1 [.int b1] (c_X4_isSlot b1 h) [] (fun u : Unit => (W_X4_store (g_env Γ) h0 h1 q2 h3 h4 h5 h6 h7 w_states_el_H w_states_el_F w_states_el_Q w_states_el_I v_filled v_p2_queued v_p2_last v_p2_before v_p2_ribbon v_p2_right v_p2_pale v_p2_dark v_p2_ghosts v_p2_printed v_p2_heats v_p2_figures v_p2_queue)) rfl ⟨(Nat.le_of_ble_eq_true rfl), (Nat.le_of_ble_eq_true rfl)⟩ ⟨rfl, rfl⟩ (Nat.le_of_ble_eq_true rfl) rfl (by decide) (fun _ => rfl) (fun _ => rfl) (fun r1 u h => ?_)
  refine g_if_eq 4 X 24 dX4_store_4 (by decide) (fun c => ?_) (fun c => ?_)
  · replace h := h.1 c
    exact ret 24 _ (w_states_el_H, w_states_el_F, w_states_el_Q, w_states_el_I, v_filled) dX4_store_24 h
  · replace h := h.2 c
    refine g_aload_n 7 X dX4_store_7 0 rfl rfl ?_
    refine g_get 8 X fa_X4_11 dX4_store_8 0 rfl rfl ?_
    refine g_iload_n 11 X dX4_store_11 1 rfl rfl ?_
    have f2 := h.1; replace h := h.2
    obtain ⟨k, hk, ek⟩ := vp_in_of f2 (by decide)
    replace h := h k hk ek
    refine g_aelt 12 X dX4_store_12 1 rfl rfl hk ek (by decide) ?_
    clear ek
    match k, hk, h with
    | 0, _, h =>
      refine g_aload_n 13 X dX4_store_13 2 rfl rfl ?_
      refine g_cVV 14 X (st := []) mv_X4_26 dX4_store_14 (q2 0 0) 5 [.ref h4] (c_X5_copyFrom (q2 0 0) (q2 0 1) (q2 0 2) (q2 0 3) h4 h5 h6 h7 (w_states_el_I 0 3) (w_states_el_I 0 4) (w_states_el_I 0 5) (w_states_el_I 0 6) (w_states_el_I 0 7) (w_states_el_I 0 8) (w_states_el_I 0 9) (w_states_el_I 0 10) (w_states_el_I 0 11) (w_states_el_H 0) (w_states_el_F 0) (w_states_el_Q 0) v_p2_queued v_p2_last v_p2_before v_p2_ribbon v_p2_right v_p2_pale v_p2_dark v_p2_ghosts v_p2_printed v_p2_heats v_p2_figures v_p2_queue h) [2, 3, 4, 5, 11, 12, 13, 14] (fun u : Int32 × Int32 × Int32 × Int32 × Int32 × Int32 × Int32 × Int32 × Int32 × (Nat → Int32) × (Nat → Int32) × (Nat → Int32) => (W_X4_store (g_env Γ) h0 h1 q2 h3 h4 h5 h6 h7 (va_up w_states_el_H 0 u.2.2.2.2.2.2.2.2.2.1) (va_up w_states_el_F 0 u.2.2.2.2.2.2.2.2.2.2.1) (va_up w_states_el_Q 0 u.2.2.2.2.2.2.2.2.2.2.2) (va_up w_states_el_I 0 (g_i9 u.1 u.2.1 u.2.2.1 u.2.2.2.1 u.2.2.2.2.1 u.2.2.2.2.2.1 u.2.2.2.2.2.2.1 u.2.2.2.2.2.2.2.1 u.2.2.2.2.2.2.2.2.1)) v_filled v_p2_queued v_p2_last v_p2_before v_p2_ribbon v_p2_right v_p2_pale v_p2_dark v_p2_ghosts v_p2_printed v_p2_heats v_p2_figures v_p2_queue)) rfl ⟨(Nat.le_of_ble_eq_true rfl), (Nat.le_of_ble_eq_true rfl)⟩ ⟨rfl, rfl⟩ (Nat.le_of_ble_eq_true rfl) rfl rfl rfl (by decide) (fun _ => rfl) (fun _ => rfl) (fun u h => ?_)
      obtain ⟨e_3_15, e_4_16, e_5_17, e_6_18, e_7_19, e_8_20, e_9_21, e_10_22, e_11_23, e_heats_24, e_figures_25, e_queue_26⟩ := u
      dsimp only at h ⊢
      refine g_aload_n 17 X dX4_store_17 0 rfl rfl ?_
      refine g_get 18 X fa_X4_17 dX4_store_18 0 rfl rfl ?_
      refine g_iload_n 21 X dX4_store_21 1 rfl rfl ?_
      refine g_iconst 22 X (1 : Int32) dX4_store_22 k_ic_1 ?_
      refine g_zast 23 X (W_X4_store (g_env Γ) h0 h1 q2 h3 h4 h5 h6 h7 (va_up w_states_el_H 0 e_heats_24) (va_up w_states_el_F 0 e_figures_25) (va_up w_states_el_Q 0 e_queue_26) (va_up w_states_el_I 0 (g_i9 e_3_15 e_4_16 e_5_17 e_6_18 e_7_19 e_8_20 e_9_21 e_10_22 e_11_23)) (upd v_filled (Int32.toNatClampNeg b1) (vp_nar .boolean (1 : Int32))) v_p2_queued v_p2_last v_p2_before v_p2_ribbon v_p2_right v_p2_pale v_p2_dark v_p2_ghosts v_p2_printed v_p2_heats v_p2_figures v_p2_queue) dX4_store_23 10 rfl rfl f2 rfl ?_
      exact ret 24 _ ((va_up w_states_el_H 0 e_heats_24), (va_up w_states_el_F 0 e_figures_25), (va_up w_states_el_Q 0 e_queue_26), (va_up w_states_el_I 0 (g_i9 e_3_15 e_4_16 e_5_17 e_6_18 e_7_19 e_8_20 e_9_21 e_10_22 e_11_23)), (upd v_filled (Int32.toNatClampNeg b1) (vp_nar .boolean (1 : Int32)))) dX4_store_24 h
    | 1, _, h =>
      refine g_aload_n 13 X dX4_store_13 2 rfl rfl ?_
      refine g_cVV 14 X (st := []) mv_X4_26 dX4_store_14 (q2 1 0) 5 [.ref h4] (c_X5_copyFrom (q2 1 0) (q2 1 1) (q2 1 2) (q2 1 3) h4 h5 h6 h7 (w_states_el_I 1 3) (w_states_el_I 1 4) (w_states_el_I 1 5) (w_states_el_I 1 6) (w_states_el_I 1 7) (w_states_el_I 1 8) (w_states_el_I 1 9) (w_states_el_I 1 10) (w_states_el_I 1 11) (w_states_el_H 1) (w_states_el_F 1) (w_states_el_Q 1) v_p2_queued v_p2_last v_p2_before v_p2_ribbon v_p2_right v_p2_pale v_p2_dark v_p2_ghosts v_p2_printed v_p2_heats v_p2_figures v_p2_queue h) [6, 7, 8, 9, 11, 12, 13, 14] (fun u : Int32 × Int32 × Int32 × Int32 × Int32 × Int32 × Int32 × Int32 × Int32 × (Nat → Int32) × (Nat → Int32) × (Nat → Int32) => (W_X4_store (g_env Γ) h0 h1 q2 h3 h4 h5 h6 h7 (va_up w_states_el_H 1 u.2.2.2.2.2.2.2.2.2.1) (va_up w_states_el_F 1 u.2.2.2.2.2.2.2.2.2.2.1) (va_up w_states_el_Q 1 u.2.2.2.2.2.2.2.2.2.2.2) (va_up w_states_el_I 1 (g_i9 u.1 u.2.1 u.2.2.1 u.2.2.2.1 u.2.2.2.2.1 u.2.2.2.2.2.1 u.2.2.2.2.2.2.1 u.2.2.2.2.2.2.2.1 u.2.2.2.2.2.2.2.2.1)) v_filled v_p2_queued v_p2_last v_p2_before v_p2_ribbon v_p2_right v_p2_pale v_p2_dark v_p2_ghosts v_p2_printed v_p2_heats v_p2_figures v_p2_queue)) rfl ⟨(Nat.le_of_ble_eq_true rfl), (Nat.le_of_ble_eq_true rfl)⟩ ⟨rfl, rfl⟩ (Nat.le_of_ble_eq_true rfl) rfl rfl rfl (by decide) (fun _ => rfl) (fun _ => rfl) (fun u h => ?_)
      obtain ⟨e_3_27, e_4_28, e_5_29, e_6_30, e_7_31, e_8_32, e_9_33, e_10_34, e_11_35, e_heats_36, e_figures_37, e_queue_38⟩ := u
      dsimp only at h ⊢
      refine g_aload_n 17 X dX4_store_17 0 rfl rfl ?_
      refine g_get 18 X fa_X4_17 dX4_store_18 0 rfl rfl ?_
      refine g_iload_n 21 X dX4_store_21 1 rfl rfl ?_
      refine g_iconst 22 X (1 : Int32) dX4_store_22 k_ic_1 ?_
      refine g_zast 23 X (W_X4_store (g_env Γ) h0 h1 q2 h3 h4 h5 h6 h7 (va_up w_states_el_H 1 e_heats_36) (va_up w_states_el_F 1 e_figures_37) (va_up w_states_el_Q 1 e_queue_38) (va_up w_states_el_I 1 (g_i9 e_3_27 e_4_28 e_5_29 e_6_30 e_7_31 e_8_32 e_9_33 e_10_34 e_11_35)) (upd v_filled (Int32.toNatClampNeg b1) (vp_nar .boolean (1 : Int32))) v_p2_queued v_p2_last v_p2_before v_p2_ribbon v_p2_right v_p2_pale v_p2_dark v_p2_ghosts v_p2_printed v_p2_heats v_p2_figures v_p2_queue) dX4_store_23 10 rfl rfl f2 rfl ?_
      exact ret 24 _ ((va_up w_states_el_H 1 e_heats_36), (va_up w_states_el_F 1 e_figures_37), (va_up w_states_el_Q 1 e_queue_38), (va_up w_states_el_I 1 (g_i9 e_3_27 e_4_28 e_5_29 e_6_30 e_7_31 e_8_32 e_9_33 e_10_34 e_11_35)), (upd v_filled (Int32.toNatClampNeg b1) (vp_nar .boolean (1 : Int32)))) dX4_store_24 h
    | k + 2, hk, _ => exact absurd hk (by omega)

def W_X4_fetch (E : g_E) (h0 : Nat) (h1 : Nat) (q2 : Nat → Nat → Nat) (h3 : Nat) (h4 : Nat) (h5 : Nat) (h6 : Nat) (h7 : Nat) (w_states_el_H : Nat → Nat → Int32) (w_states_el_F : Nat → Nat → Int32) (w_states_el_Q : Nat → Nat → Int32) (w_states_el_I : Nat → Nat → Int32) (v_filled : Nat → Int32) (v_p2_queued : Int32) (v_p2_last : Int32) (v_p2_before : Int32) (v_p2_ribbon : Int32) (v_p2_right : Int32) (v_p2_pale : Int32) (v_p2_dark : Int32) (v_p2_ghosts : Int32) (v_p2_printed : Int32) (v_p2_heats : Nat → Int32) (v_p2_figures : Nat → Int32) (v_p2_queue : Nat → Int32) : va_W := [(h0, .inr (4, [.ref h1, .ref h3])), (h1, .inl (E.2.2.2.1, 2, .inr (.inr (.inr (.inr (fun k => some (q2 k 0)))))))] ++ g_pool E q2 w_states_el_H w_states_el_F w_states_el_Q w_states_el_I 2 ++ [(h3, .inl (E.2.2.1, 2, .inl v_filled)), (h4, .inr (5, [.ref h5, .ref h6, .ref h7, .int v_p2_queued, .int v_p2_last, .int v_p2_before, .int v_p2_ribbon, .int v_p2_right, .int v_p2_pale, .int v_p2_dark, .int v_p2_ghosts, .int v_p2_printed])), (h5, .inl (E.2.1, 8, .inl v_p2_heats)), (h6, .inl (E.2.1, 5, .inl v_p2_figures)), (h7, .inl (E.2.1, 8, .inl v_p2_queue))]
def P_X4_fetch (b1 : Int32) (w_states_el_H : Nat → Nat → Int32) (w_states_el_F : Nat → Nat → Int32) (w_states_el_Q : Nat → Nat → Int32) (w_states_el_I : Nat → Nat → Int32) (v_filled : Nat → Int32) (v_p2_queued : Int32) (v_p2_last : Int32) (v_p2_before : Int32) (v_p2_ribbon : Int32) (v_p2_right : Int32) (v_p2_pale : Int32) (v_p2_dark : Int32) (v_p2_ghosts : Int32) (v_p2_printed : Int32) (v_p2_heats : Nat → Int32) (v_p2_figures : Nat → Int32) (v_p2_queue : Nat → Int32) (K : Int32 → Int32 → Int32 → Int32 → Int32 → Int32 → Int32 → Int32 → Int32 → Int32 → (Nat → Int32) → (Nat → Int32) → (Nat → Int32) → Prop) : Prop := (P_X4_isSlot b1 (fun r1 => ((r1 = (0 : Int32) → K (0 : Int32) v_p2_queued v_p2_last v_p2_before v_p2_ribbon v_p2_right v_p2_pale v_p2_dark v_p2_ghosts v_p2_printed v_p2_heats v_p2_figures v_p2_queue) ∧ (¬ r1 = (0 : Int32) → (vp_in b1 2 ∧ ((¬ (v_filled (Int32.toNatClampNeg b1)) = (0 : Int32) → (∀ k : Nat, k < 2 → b1 = nI k → (P_X5_copyFrom v_p2_queued v_p2_last v_p2_before v_p2_ribbon v_p2_right v_p2_pale v_p2_dark v_p2_ghosts v_p2_printed v_p2_heats v_p2_figures v_p2_queue (w_states_el_I k 3) (w_states_el_I k 4) (w_states_el_I k 5) (w_states_el_I k 6) (w_states_el_I k 7) (w_states_el_I k 8) (w_states_el_I k 9) (w_states_el_I k 10) (w_states_el_I k 11) (w_states_el_H k) (w_states_el_F k) (w_states_el_Q k) (fun v_p2_queued_3 v_p2_last_4 v_p2_before_5 v_p2_ribbon_6 v_p2_right_7 v_p2_pale_8 v_p2_dark_9 v_p2_ghosts_10 v_p2_printed_11 v_p2_heats_12 v_p2_figures_13 v_p2_queue_14 => K (1 : Int32) v_p2_queued_3 v_p2_last_4 v_p2_before_5 v_p2_ribbon_6 v_p2_right_7 v_p2_pale_8 v_p2_dark_9 v_p2_ghosts_10 v_p2_printed_11 v_p2_heats_12 v_p2_figures_13 v_p2_queue_14)))) ∧ ((v_filled (Int32.toNatClampNeg b1)) = (0 : Int32) → K (0 : Int32) v_p2_queued v_p2_last v_p2_before v_p2_ribbon v_p2_right v_p2_pale v_p2_dark v_p2_ghosts v_p2_printed v_p2_heats v_p2_figures v_p2_queue)))))))
set_option maxHeartbeats 4000000 in
set_option maxRecDepth 100000 in
theorem c_X4_fetch {l : Launch} {E : g_E} (h0 : Nat) (h1 : Nat) (q2 : Nat → Nat → Nat) (h3 : Nat) (h4 : Nat) (h5 : Nat) (h6 : Nat) (h7 : Nat) (w_states_el_H : Nat → Nat → Int32) (w_states_el_F : Nat → Nat → Int32) (w_states_el_Q : Nat → Nat → Int32) (w_states_el_I : Nat → Nat → Int32) (v_filled : Nat → Int32) (v_p2_queued : Int32) (v_p2_last : Int32) (v_p2_before : Int32) (v_p2_ribbon : Int32) (v_p2_right : Int32) (v_p2_pale : Int32) (v_p2_dark : Int32) (v_p2_ghosts : Int32) (v_p2_printed : Int32) (v_p2_heats : Nat → Int32) (v_p2_figures : Nat → Int32) (v_p2_queue : Nat → Int32) (b1 : Int32) {K : Int32 → Int32 → Int32 → Int32 → Int32 → Int32 → Int32 → Int32 → Int32 → Int32 → (Nat → Int32) → (Nat → Int32) → (Nat → Int32) → Prop} (h : P_X4_fetch b1 w_states_el_H w_states_el_F w_states_el_Q w_states_el_I v_filled v_p2_queued v_p2_last v_p2_before v_p2_ribbon v_p2_right v_p2_pale v_p2_dark v_p2_ghosts v_p2_printed v_p2_heats v_p2_figures v_p2_queue K) : g_CI l E yX4_fetch cX4_fetch 3 .boolean (g_Rm 2 61) [.ref h0, .int b1, .ref h4] (W_X4_fetch E h0 h1 q2 h3 h4 h5 h6 h7 w_states_el_H w_states_el_F w_states_el_Q w_states_el_I v_filled v_p2_queued v_p2_last v_p2_before v_p2_ribbon v_p2_right v_p2_pale v_p2_dark v_p2_ghosts v_p2_printed v_p2_heats v_p2_figures v_p2_queue) (fun r (u : Int32 × Int32 × Int32 × Int32 × Int32 × Int32 × Int32 × Int32 × Int32 × (Nat → Int32) × (Nat → Int32) × (Nat → Int32)) => K r u.1 u.2.1 u.2.2.1 u.2.2.2.1 u.2.2.2.2.1 u.2.2.2.2.2.1 u.2.2.2.2.2.2.1 u.2.2.2.2.2.2.2.1 u.2.2.2.2.2.2.2.2.1 u.2.2.2.2.2.2.2.2.2.1 u.2.2.2.2.2.2.2.2.2.2.1 u.2.2.2.2.2.2.2.2.2.2.2) (fun (u : Int32 × Int32 × Int32 × Int32 × Int32 × Int32 × Int32 × Int32 × Int32 × (Nat → Int32) × (Nat → Int32) × (Nat → Int32)) => (W_X4_fetch E h0 h1 q2 h3 h4 h5 h6 h7 w_states_el_H w_states_el_F w_states_el_Q w_states_el_I v_filled u.1 u.2.1 u.2.2.1 u.2.2.2.1 u.2.2.2.2.1 u.2.2.2.2.2.1 u.2.2.2.2.2.2.1 u.2.2.2.2.2.2.2.1 u.2.2.2.2.2.2.2.2.1 u.2.2.2.2.2.2.2.2.2.1 u.2.2.2.2.2.2.2.2.2.2.1 u.2.2.2.2.2.2.2.2.2.2.2)) := by
  refine g_entI RX4 (by decide) rfl (Nat.le_of_ble_eq_true rfl) ?_
  intro Γ X hE hl ret
  subst hE
  subst hl
  unfold P_X4_fetch at h
  show g_G Γ (g_Rm 2 61) 3 0 [(0, .ref h0), (1, .int b1), (2, .ref h4)] [] (W_X4_fetch (g_env Γ) h0 h1 q2 h3 h4 h5 h6 h7 w_states_el_H w_states_el_F w_states_el_Q w_states_el_I v_filled v_p2_queued v_p2_last v_p2_before v_p2_ribbon v_p2_right v_p2_pale v_p2_dark v_p2_ghosts v_p2_printed v_p2_heats v_p2_figures v_p2_queue)
  refine g_iload_n 0 X dX4_fetch_0 1 rfl rfl ?_
  refine g_cSI 1 X (st := []) mv_X4_22 dX4_fetch_1 [.int b1] (c_X4_isSlot b1 h) [] (fun u : Unit => (W_X4_fetch (g_env Γ) h0 h1 q2 h3 h4 h5 h6 h7 w_states_el_H w_states_el_F w_states_el_Q w_states_el_I v_filled v_p2_queued v_p2_last v_p2_before v_p2_ribbon v_p2_right v_p2_pale v_p2_dark v_p2_ghosts v_p2_printed v_p2_heats v_p2_figures v_p2_queue)) rfl ⟨(Nat.le_of_ble_eq_true rfl), (Nat.le_of_ble_eq_true rfl)⟩ ⟨rfl, rfl⟩ (Nat.le_of_ble_eq_true rfl) rfl (by decide) (fun _ => rfl) (fun _ => rfl) (fun r1 u h => ?_)
  refine g_if_eq 4 X 16 dX4_fetch_4 (by decide) (fun c => ?_) (fun c => ?_)
  · replace h := h.1 c
    refine g_iconst 16 X (0 : Int32) dX4_fetch_16 k_ic_0 ?_
    exact ret 17 _ _ (v_p2_queued, v_p2_last, v_p2_before, v_p2_ribbon, v_p2_right, v_p2_pale, v_p2_dark, v_p2_ghosts, v_p2_printed, v_p2_heats, v_p2_figures, v_p2_queue) dX4_fetch_17 (by decide) h
  · replace h := h.2 c
    refine g_aload_n 7 X dX4_fetch_7 0 rfl rfl ?_
    refine g_get 8 X fa_X4_17 dX4_fetch_8 0 rfl rfl ?_
    refine g_iload_n 11 X dX4_fetch_11 1 rfl rfl ?_
    have f2 := h.1; replace h := h.2
    refine g_zald 12 X dX4_fetch_12 10 rfl rfl f2 ?_
    refine g_if_ne 13 X 18 dX4_fetch_13 (by decide) (fun c => ?_) (fun c => ?_)
    · replace h := h.1 c
      refine g_aload_n 18 X dX4_fetch_18 2 rfl rfl ?_
      refine g_aload_n 19 X dX4_fetch_19 0 rfl rfl ?_
      refine g_get 20 X fa_X4_11 dX4_fetch_20 0 rfl rfl ?_
      refine g_iload_n 23 X dX4_fetch_23 1 rfl rfl ?_
      obtain ⟨k, hk, ek⟩ := vp_in_of f2 (by decide)
      replace h := h k hk ek
      refine g_aelt 24 X dX4_fetch_24 1 rfl rfl hk ek (by decide) ?_
      clear ek
      match k, hk, h with
      | 0, _, h =>
        refine g_cVV 25 X (st := []) mv_X4_26 dX4_fetch_25 h4 5 [.ref (q2 0 0)] (c_X5_copyFrom h4 h5 h6 h7 (q2 0 0) (q2 0 1) (q2 0 2) (q2 0 3) v_p2_queued v_p2_last v_p2_before v_p2_ribbon v_p2_right v_p2_pale v_p2_dark v_p2_ghosts v_p2_printed v_p2_heats v_p2_figures v_p2_queue (w_states_el_I 0 3) (w_states_el_I 0 4) (w_states_el_I 0 5) (w_states_el_I 0 6) (w_states_el_I 0 7) (w_states_el_I 0 8) (w_states_el_I 0 9) (w_states_el_I 0 10) (w_states_el_I 0 11) (w_states_el_H 0) (w_states_el_F 0) (w_states_el_Q 0) h) [11, 12, 13, 14, 2, 3, 4, 5] (fun u : Int32 × Int32 × Int32 × Int32 × Int32 × Int32 × Int32 × Int32 × Int32 × (Nat → Int32) × (Nat → Int32) × (Nat → Int32) => (W_X4_fetch (g_env Γ) h0 h1 q2 h3 h4 h5 h6 h7 w_states_el_H w_states_el_F w_states_el_Q w_states_el_I v_filled u.1 u.2.1 u.2.2.1 u.2.2.2.1 u.2.2.2.2.1 u.2.2.2.2.2.1 u.2.2.2.2.2.2.1 u.2.2.2.2.2.2.2.1 u.2.2.2.2.2.2.2.2.1 u.2.2.2.2.2.2.2.2.2.1 u.2.2.2.2.2.2.2.2.2.2.1 u.2.2.2.2.2.2.2.2.2.2.2)) rfl ⟨(Nat.le_of_ble_eq_true rfl), (Nat.le_of_ble_eq_true rfl)⟩ ⟨rfl, rfl⟩ (Nat.le_of_ble_eq_true rfl) rfl rfl rfl (by decide) (fun _ => rfl) (fun _ => rfl) (fun u h => ?_)
        obtain ⟨v_p2_queued_15, v_p2_last_16, v_p2_before_17, v_p2_ribbon_18, v_p2_right_19, v_p2_pale_20, v_p2_dark_21, v_p2_ghosts_22, v_p2_printed_23, v_p2_heats_24, v_p2_figures_25, v_p2_queue_26⟩ := u
        dsimp only at h ⊢
        refine g_iconst 28 X (1 : Int32) dX4_fetch_28 k_ic_1 ?_
        exact ret 29 _ _ (v_p2_queued_15, v_p2_last_16, v_p2_before_17, v_p2_ribbon_18, v_p2_right_19, v_p2_pale_20, v_p2_dark_21, v_p2_ghosts_22, v_p2_printed_23, v_p2_heats_24, v_p2_figures_25, v_p2_queue_26) dX4_fetch_29 (by decide) h
      | 1, _, h =>
        refine g_cVV 25 X (st := []) mv_X4_26 dX4_fetch_25 h4 5 [.ref (q2 1 0)] (c_X5_copyFrom h4 h5 h6 h7 (q2 1 0) (q2 1 1) (q2 1 2) (q2 1 3) v_p2_queued v_p2_last v_p2_before v_p2_ribbon v_p2_right v_p2_pale v_p2_dark v_p2_ghosts v_p2_printed v_p2_heats v_p2_figures v_p2_queue (w_states_el_I 1 3) (w_states_el_I 1 4) (w_states_el_I 1 5) (w_states_el_I 1 6) (w_states_el_I 1 7) (w_states_el_I 1 8) (w_states_el_I 1 9) (w_states_el_I 1 10) (w_states_el_I 1 11) (w_states_el_H 1) (w_states_el_F 1) (w_states_el_Q 1) h) [11, 12, 13, 14, 6, 7, 8, 9] (fun u : Int32 × Int32 × Int32 × Int32 × Int32 × Int32 × Int32 × Int32 × Int32 × (Nat → Int32) × (Nat → Int32) × (Nat → Int32) => (W_X4_fetch (g_env Γ) h0 h1 q2 h3 h4 h5 h6 h7 w_states_el_H w_states_el_F w_states_el_Q w_states_el_I v_filled u.1 u.2.1 u.2.2.1 u.2.2.2.1 u.2.2.2.2.1 u.2.2.2.2.2.1 u.2.2.2.2.2.2.1 u.2.2.2.2.2.2.2.1 u.2.2.2.2.2.2.2.2.1 u.2.2.2.2.2.2.2.2.2.1 u.2.2.2.2.2.2.2.2.2.2.1 u.2.2.2.2.2.2.2.2.2.2.2)) rfl ⟨(Nat.le_of_ble_eq_true rfl), (Nat.le_of_ble_eq_true rfl)⟩ ⟨rfl, rfl⟩ (Nat.le_of_ble_eq_true rfl) rfl rfl rfl (by decide) (fun _ => rfl) (fun _ => rfl) (fun u h => ?_)
        obtain ⟨v_p2_queued_27, v_p2_last_28, v_p2_before_29, v_p2_ribbon_30, v_p2_right_31, v_p2_pale_32, v_p2_dark_33, v_p2_ghosts_34, v_p2_printed_35, v_p2_heats_36, v_p2_figures_37, v_p2_queue_38⟩ := u
        dsimp only at h ⊢
        refine g_iconst 28 X (1 : Int32) dX4_fetch_28 k_ic_1 ?_
        exact ret 29 _ _ (v_p2_queued_27, v_p2_last_28, v_p2_before_29, v_p2_ribbon_30, v_p2_right_31, v_p2_pale_32, v_p2_dark_33, v_p2_ghosts_34, v_p2_printed_35, v_p2_heats_36, v_p2_figures_37, v_p2_queue_38) dX4_fetch_29 (by decide) h
      | k + 2, hk, _ => exact absurd hk (by omega)
    · replace h := h.2 c
      refine g_iconst 16 X (0 : Int32) dX4_fetch_16 k_ic_0 ?_
      exact ret 17 _ _ (v_p2_queued, v_p2_last, v_p2_before, v_p2_ribbon, v_p2_right, v_p2_pale, v_p2_dark, v_p2_ghosts, v_p2_printed, v_p2_heats, v_p2_figures, v_p2_queue) dX4_fetch_17 (by decide) h

def W_X4_forgetAll (E : g_E) (h0 : Nat) (h1 : Nat) (o0 : Value) (v_filled : Nat → Int32) : va_W := [(h0, .inr (4, [o0, .ref h1])), (h1, .inl (E.2.2.1, 2, .inl v_filled))]
def P_X4_forgetAll_L2 (C20 : (Nat → Int32) → Prop) : Nat → Int32 → (Nat → Int32) → Prop
  | 0, _, _ => False
  | n + 1, x1, v_filled => (((2 : Int32) ≤ x1 → C20 v_filled) ∧ (¬ (2 : Int32) ≤ x1 → (vp_in x1 2 ∧ P_X4_forgetAll_L2 C20 n (x1 + (1 : Int32)) (upd v_filled (Int32.toNatClampNeg x1) (vp_nar .boolean (0 : Int32))))))
def P_X4_forgetAll (v_filled : Nat → Int32) (K : (Nat → Int32) → Prop) : Prop := (∃ ne : Nat, P_X4_forgetAll_L2 (fun v_filled_3 => K v_filled_3) ne (0 : Int32) v_filled)
set_option maxHeartbeats 4000000 in
set_option maxRecDepth 100000 in
theorem l_X4_forgetAll_2 {Γ : g_C} (X : g_X Γ (g_Rm 0 0) cX4_forgetAll RX4 2) (h0 : Nat) (h1 : Nat) (o0 : Value) {C20 : (Nat → Int32) → Prop} (hC20 : ∀ (v_filled : Nat → Int32), C20 v_filled → g_G Γ (g_Rm 0 0) 2 20 [] [] (W_X4_forgetAll (g_env Γ) h0 h1 o0 v_filled)) : ∀ (n : Nat) (x1 : Int32) (v_filled : Nat → Int32), P_X4_forgetAll_L2 C20 n x1 v_filled → g_G Γ (g_Rm 0 0) 2 2 [(0, .ref h0), (1, .int x1)] [] (W_X4_forgetAll (g_env Γ) h0 h1 o0 v_filled) := by
  intro n
  induction n with
  | zero => intro x1 v_filled h; exact False.elim h
  | succ n ih =>
    intro x1 v_filled h
    unfold P_X4_forgetAll_L2 at h
    refine g_iload_n 2 X dX4_forgetAll_2 1 rfl rfl ?_
    refine g_iconst 3 X (2 : Int32) dX4_forgetAll_3 k_ic_2 ?_
    refine g_icmp_ge 4 X 20 dX4_forgetAll_4 (by decide) (fun c => ?_) (fun c => ?_)
    · replace h := h.1 c
      refine g_sub [] [] rfl ?_
      exact hC20 v_filled h
    · replace h := h.2 c
      refine g_aload_n 7 X dX4_forgetAll_7 0 rfl rfl ?_
      refine g_get 8 X fa_X4_17 dX4_forgetAll_8 0 rfl rfl ?_
      refine g_iload_n 11 X dX4_forgetAll_11 1 rfl rfl ?_
      refine g_iconst 12 X (0 : Int32) dX4_forgetAll_12 k_ic_0 ?_
      have f2 := h.1; replace h := h.2
      refine g_zast 13 X (W_X4_forgetAll (g_env Γ) h0 h1 o0 (upd v_filled (Int32.toNatClampNeg x1) (vp_nar .boolean (0 : Int32)))) dX4_forgetAll_13 1 rfl rfl f2 rfl ?_
      refine g_iinc 14 X (x1 + (1 : Int32)) [(1, .int (x1 + (1 : Int32))), (0, .ref h0)] dX4_forgetAll_14 1 rfl (k_ii_1 _) (Nat.le_of_ble_eq_true rfl) rfl ?_
      refine g_goto 17 X 2 dX4_forgetAll_17 (by decide) ?_
      refine g_sub [(0, .ref h0), (1, .int (x1 + (1 : Int32)))] [1, 0] rfl ?_
      exact ih (x1 + (1 : Int32)) (upd v_filled (Int32.toNatClampNeg x1) (vp_nar .boolean (0 : Int32))) h
set_option maxHeartbeats 4000000 in
set_option maxRecDepth 100000 in
theorem c_X4_forgetAll {l : Launch} {E : g_E} (h0 : Nat) (h1 : Nat) (o0 : Value) (v_filled : Nat → Int32) {K : (Nat → Int32) → Prop} (h : P_X4_forgetAll v_filled K) : g_CV l E yX4_forgetAll cX4_forgetAll 2 (g_Rm 0 0) [.ref h0] (W_X4_forgetAll E h0 h1 o0 v_filled) (fun (u : (Nat → Int32)) => K u) (fun (u : (Nat → Int32)) => (W_X4_forgetAll E h0 h1 o0 u)) := by
  refine g_entV RX4 (by decide) rfl (Nat.le_of_ble_eq_true rfl) ?_
  intro Γ X hE hl ret
  subst hE
  subst hl
  unfold P_X4_forgetAll at h
  show g_G Γ (g_Rm 0 0) 2 0 [(0, .ref h0)] [] (W_X4_forgetAll (g_env Γ) h0 h1 o0 v_filled)
  refine g_iconst 0 X (0 : Int32) dX4_forgetAll_0 k_ic_0 ?_
  refine g_istore_n 1 X [(1, .int (0 : Int32)), (0, .ref h0)] dX4_forgetAll_1 rfl (Nat.le_of_ble_eq_true rfl) rfl ?_
  obtain ⟨n4, h⟩ := h
  refine g_sub [(0, .ref h0), (1, .int (0 : Int32))] [1, 0] rfl ?_
  refine l_X4_forgetAll_2 X h0 h1 o0 (fun v_filled_3 h => ?_) n4 (0 : Int32) v_filled h
  · exact ret 20 _ (v_filled_3) dX4_forgetAll_20 h

def W_X5_startAnew (E : g_E) (h0 : Nat) (h1 : Nat) (o0 o1 : Value) (v_z_queued : Int32) (v_z_last : Int32) (v_z_before : Int32) (v_z_ribbon : Int32) (v_z_right : Int32) (v_z_pale : Int32) (v_z_dark : Int32) (v_z_ghosts : Int32) (v_z_printed : Int32) (v_heats : Nat → Int32) : va_W := [(h0, .inr (5, [.ref h1, o0, o1, .int v_z_queued, .int v_z_last, .int v_z_before, .int v_z_ribbon, .int v_z_right, .int v_z_pale, .int v_z_dark, .int v_z_ghosts, .int v_z_printed])), (h1, .inl (E.2.1, 8, .inl v_heats))]
def P_X5_startAnew_L2 (C21 : (Nat → Int32) → Prop) : Nat → Int32 → (Nat → Int32) → Prop
  | 0, _, _ => False
  | n + 1, x1, v_heats => (((8 : Int32) ≤ x1 → C21 v_heats) ∧ (¬ (8 : Int32) ≤ x1 → (vp_in x1 8 ∧ P_X5_startAnew_L2 C21 n (x1 + (1 : Int32)) (upd v_heats (Int32.toNatClampNeg x1) (0 : Int32)))))
def P_X5_startAnew (v_z_queued : Int32) (v_z_last : Int32) (v_z_before : Int32) (v_z_ribbon : Int32) (v_z_right : Int32) (v_z_pale : Int32) (v_z_dark : Int32) (v_z_ghosts : Int32) (v_z_printed : Int32) (v_heats : Nat → Int32) (K : Int32 → Int32 → Int32 → Int32 → Int32 → Int32 → Int32 → Int32 → Int32 → (Nat → Int32) → Prop) : Prop := (∃ ne : Nat, P_X5_startAnew_L2 (fun v_heats_3 => K (0 : Int32) (0 : Int32) (0 : Int32) (99 : Int32) (0 : Int32) (0 : Int32) (0 : Int32) (0 : Int32) (0 : Int32) v_heats_3) ne (0 : Int32) v_heats)
set_option maxHeartbeats 4000000 in
set_option maxRecDepth 100000 in
theorem l_X5_startAnew_2 {Γ : g_C} (X : g_X Γ (g_Rm 0 0) cX5_startAnew RX5 2) (h0 : Nat) (h1 : Nat) (o0 o1 : Value) (v_z_queued : Int32) (v_z_last : Int32) (v_z_before : Int32) (v_z_ribbon : Int32) (v_z_right : Int32) (v_z_pale : Int32) (v_z_dark : Int32) (v_z_ghosts : Int32) (v_z_printed : Int32) {C21 : (Nat → Int32) → Prop} (hC21 : ∀ (v_heats : Nat → Int32), C21 v_heats → g_G Γ (g_Rm 0 0) 2 21 [(0, .ref h0)] [] (W_X5_startAnew (g_env Γ) h0 h1 o0 o1 v_z_queued v_z_last v_z_before v_z_ribbon v_z_right v_z_pale v_z_dark v_z_ghosts v_z_printed v_heats)) : ∀ (n : Nat) (x1 : Int32) (v_heats : Nat → Int32), P_X5_startAnew_L2 C21 n x1 v_heats → g_G Γ (g_Rm 0 0) 2 2 [(0, .ref h0), (1, .int x1)] [] (W_X5_startAnew (g_env Γ) h0 h1 o0 o1 v_z_queued v_z_last v_z_before v_z_ribbon v_z_right v_z_pale v_z_dark v_z_ghosts v_z_printed v_heats) := by
  intro n
  induction n with
  | zero => intro x1 v_heats h; exact False.elim h
  | succ n ih =>
    intro x1 v_heats h
    unfold P_X5_startAnew_L2 at h
    refine g_iload_n 2 X dX5_startAnew_2 1 rfl rfl ?_
    refine g_bipush 3 X (8 : Int32) dX5_startAnew_3 k_bp_8 ?_
    refine g_icmp_ge 5 X 21 dX5_startAnew_5 (by decide) (fun c => ?_) (fun c => ?_)
    · replace h := h.1 c
      refine g_sub [(0, .ref h0)] [0] rfl ?_
      exact hC21 v_heats h
    · replace h := h.2 c
      refine g_aload_n 8 X dX5_startAnew_8 0 rfl rfl ?_
      refine g_get 9 X fa_X5_9 dX5_startAnew_9 0 rfl rfl ?_
      refine g_iload_n 12 X dX5_startAnew_12 1 rfl rfl ?_
      refine g_iconst 13 X (0 : Int32) dX5_startAnew_13 k_ic_0 ?_
      have f2 := h.1; replace h := h.2
      refine g_iast 14 X (W_X5_startAnew (g_env Γ) h0 h1 o0 o1 v_z_queued v_z_last v_z_before v_z_ribbon v_z_right v_z_pale v_z_dark v_z_ghosts v_z_printed (upd v_heats (Int32.toNatClampNeg x1) (0 : Int32))) dX5_startAnew_14 1 rfl rfl f2 rfl ?_
      refine g_iinc 15 X (x1 + (1 : Int32)) [(1, .int (x1 + (1 : Int32))), (0, .ref h0)] dX5_startAnew_15 1 rfl (k_ii_1 _) (Nat.le_of_ble_eq_true rfl) rfl ?_
      refine g_goto 18 X 2 dX5_startAnew_18 (by decide) ?_
      refine g_sub [(0, .ref h0), (1, .int (x1 + (1 : Int32)))] [1, 0] rfl ?_
      exact ih (x1 + (1 : Int32)) (upd v_heats (Int32.toNatClampNeg x1) (0 : Int32)) h
set_option maxHeartbeats 4000000 in
set_option maxRecDepth 100000 in
theorem c_X5_startAnew {l : Launch} {E : g_E} (h0 : Nat) (h1 : Nat) (o0 o1 : Value) (v_z_queued : Int32) (v_z_last : Int32) (v_z_before : Int32) (v_z_ribbon : Int32) (v_z_right : Int32) (v_z_pale : Int32) (v_z_dark : Int32) (v_z_ghosts : Int32) (v_z_printed : Int32) (v_heats : Nat → Int32) {K : Int32 → Int32 → Int32 → Int32 → Int32 → Int32 → Int32 → Int32 → Int32 → (Nat → Int32) → Prop} (h : P_X5_startAnew v_z_queued v_z_last v_z_before v_z_ribbon v_z_right v_z_pale v_z_dark v_z_ghosts v_z_printed v_heats K) : g_CV l E yX5_startAnew cX5_startAnew 2 (g_Rm 0 0) [.ref h0] (W_X5_startAnew E h0 h1 o0 o1 v_z_queued v_z_last v_z_before v_z_ribbon v_z_right v_z_pale v_z_dark v_z_ghosts v_z_printed v_heats) (fun (u : Int32 × Int32 × Int32 × Int32 × Int32 × Int32 × Int32 × Int32 × Int32 × (Nat → Int32)) => K u.1 u.2.1 u.2.2.1 u.2.2.2.1 u.2.2.2.2.1 u.2.2.2.2.2.1 u.2.2.2.2.2.2.1 u.2.2.2.2.2.2.2.1 u.2.2.2.2.2.2.2.2.1 u.2.2.2.2.2.2.2.2.2) (fun (u : Int32 × Int32 × Int32 × Int32 × Int32 × Int32 × Int32 × Int32 × Int32 × (Nat → Int32)) => (W_X5_startAnew E h0 h1 o0 o1 u.1 u.2.1 u.2.2.1 u.2.2.2.1 u.2.2.2.2.1 u.2.2.2.2.2.1 u.2.2.2.2.2.2.1 u.2.2.2.2.2.2.2.1 u.2.2.2.2.2.2.2.2.1 u.2.2.2.2.2.2.2.2.2)) := by
  refine g_entV RX5 (by decide) rfl (Nat.le_of_ble_eq_true rfl) ?_
  intro Γ X hE hl ret
  subst hE
  subst hl
  unfold P_X5_startAnew at h
  show g_G Γ (g_Rm 0 0) 2 0 [(0, .ref h0)] [] (W_X5_startAnew (g_env Γ) h0 h1 o0 o1 v_z_queued v_z_last v_z_before v_z_ribbon v_z_right v_z_pale v_z_dark v_z_ghosts v_z_printed v_heats)
  refine g_iconst 0 X (0 : Int32) dX5_startAnew_0 k_ic_0 ?_
  refine g_istore_n 1 X [(1, .int (0 : Int32)), (0, .ref h0)] dX5_startAnew_1 rfl (Nat.le_of_ble_eq_true rfl) rfl ?_
  obtain ⟨n4, h⟩ := h
  refine g_sub [(0, .ref h0), (1, .int (0 : Int32))] [1, 0] rfl ?_
  refine l_X5_startAnew_2 X h0 h1 o0 o1 v_z_queued v_z_last v_z_before v_z_ribbon v_z_right v_z_pale v_z_dark v_z_ghosts v_z_printed (fun v_heats_3 h => ?_) n4 (0 : Int32) v_heats h
  · refine g_aload_n 21 X dX5_startAnew_21 0 rfl rfl ?_
    refine g_iconst 22 X (0 : Int32) dX5_startAnew_22 k_ic_0 ?_
    refine g_put 23 X (W_X5_startAnew (g_env Γ) h0 h1 o0 o1 (0 : Int32) v_z_last v_z_before v_z_ribbon v_z_right v_z_pale v_z_dark v_z_ghosts v_z_printed v_heats_3) fa_X5_27 pa_5_3 dX5_startAnew_23 0 rfl rfl rfl (Nat.le_of_ble_eq_true rfl) rfl ?_
    refine g_aload_n 26 X dX5_startAnew_26 0 rfl rfl ?_
    refine g_iconst 27 X (0 : Int32) dX5_startAnew_27 k_ic_0 ?_
    refine g_put 28 X (W_X5_startAnew (g_env Γ) h0 h1 o0 o1 (0 : Int32) (0 : Int32) v_z_before v_z_ribbon v_z_right v_z_pale v_z_dark v_z_ghosts v_z_printed v_heats_3) fa_X5_31 pa_5_4 dX5_startAnew_28 0 rfl rfl rfl (Nat.le_of_ble_eq_true rfl) rfl ?_
    refine g_aload_n 31 X dX5_startAnew_31 0 rfl rfl ?_
    refine g_iconst 32 X (0 : Int32) dX5_startAnew_32 k_ic_0 ?_
    refine g_put 33 X (W_X5_startAnew (g_env Γ) h0 h1 o0 o1 (0 : Int32) (0 : Int32) (0 : Int32) v_z_ribbon v_z_right v_z_pale v_z_dark v_z_ghosts v_z_printed v_heats_3) fa_X5_34 pa_5_5 dX5_startAnew_33 0 rfl rfl rfl (Nat.le_of_ble_eq_true rfl) rfl ?_
    refine g_aload_n 36 X dX5_startAnew_36 0 rfl rfl ?_
    refine g_bipush 37 X (99 : Int32) dX5_startAnew_37 k_bp_99 ?_
    refine g_put 39 X (W_X5_startAnew (g_env Γ) h0 h1 o0 o1 (0 : Int32) (0 : Int32) (0 : Int32) (99 : Int32) v_z_right v_z_pale v_z_dark v_z_ghosts v_z_printed v_heats_3) fa_X5_37 pa_5_6 dX5_startAnew_39 0 rfl rfl rfl (Nat.le_of_ble_eq_true rfl) rfl ?_
    refine g_aload_n 42 X dX5_startAnew_42 0 rfl rfl ?_
    refine g_iconst 43 X (0 : Int32) dX5_startAnew_43 k_ic_0 ?_
    refine g_put 44 X (W_X5_startAnew (g_env Γ) h0 h1 o0 o1 (0 : Int32) (0 : Int32) (0 : Int32) (99 : Int32) (0 : Int32) v_z_pale v_z_dark v_z_ghosts v_z_printed v_heats_3) fa_X5_40 pa_5_7 dX5_startAnew_44 0 rfl rfl rfl (Nat.le_of_ble_eq_true rfl) rfl ?_
    refine g_aload_n 47 X dX5_startAnew_47 0 rfl rfl ?_
    refine g_iconst 48 X (0 : Int32) dX5_startAnew_48 k_ic_0 ?_
    refine g_put 49 X (W_X5_startAnew (g_env Γ) h0 h1 o0 o1 (0 : Int32) (0 : Int32) (0 : Int32) (99 : Int32) (0 : Int32) (0 : Int32) v_z_dark v_z_ghosts v_z_printed v_heats_3) fa_X5_43 pa_5_8 dX5_startAnew_49 0 rfl rfl rfl (Nat.le_of_ble_eq_true rfl) rfl ?_
    refine g_aload_n 52 X dX5_startAnew_52 0 rfl rfl ?_
    refine g_iconst 53 X (0 : Int32) dX5_startAnew_53 k_ic_0 ?_
    refine g_put 54 X (W_X5_startAnew (g_env Γ) h0 h1 o0 o1 (0 : Int32) (0 : Int32) (0 : Int32) (99 : Int32) (0 : Int32) (0 : Int32) (0 : Int32) v_z_ghosts v_z_printed v_heats_3) fa_X5_46 pa_5_9 dX5_startAnew_54 0 rfl rfl rfl (Nat.le_of_ble_eq_true rfl) rfl ?_
    refine g_aload_n 57 X dX5_startAnew_57 0 rfl rfl ?_
    refine g_iconst 58 X (0 : Int32) dX5_startAnew_58 k_ic_0 ?_
    refine g_put 59 X (W_X5_startAnew (g_env Γ) h0 h1 o0 o1 (0 : Int32) (0 : Int32) (0 : Int32) (99 : Int32) (0 : Int32) (0 : Int32) (0 : Int32) (0 : Int32) v_z_printed v_heats_3) fa_X5_49 pa_5_10 dX5_startAnew_59 0 rfl rfl rfl (Nat.le_of_ble_eq_true rfl) rfl ?_
    refine g_aload_n 62 X dX5_startAnew_62 0 rfl rfl ?_
    refine g_iconst 63 X (0 : Int32) dX5_startAnew_63 k_ic_0 ?_
    refine g_put 64 X (W_X5_startAnew (g_env Γ) h0 h1 o0 o1 (0 : Int32) (0 : Int32) (0 : Int32) (99 : Int32) (0 : Int32) (0 : Int32) (0 : Int32) (0 : Int32) (0 : Int32) v_heats_3) fa_X5_52 pa_5_11 dX5_startAnew_64 0 rfl rfl rfl (Nat.le_of_ble_eq_true rfl) rfl ?_
    exact ret 67 _ ((0 : Int32), (0 : Int32), (0 : Int32), (99 : Int32), (0 : Int32), (0 : Int32), (0 : Int32), (0 : Int32), (0 : Int32), v_heats_3) dX5_startAnew_67 h

def W_X5_isFull (E : g_E) (h0 : Nat) (o0 o1 o2 o3 o4 o5 o6 o7 o8 o9 o10 : Value) (v_z_queued : Int32) : va_W := [(h0, .inr (5, [o0, o1, o2, .int v_z_queued, o3, o4, o5, o6, o7, o8, o9, o10]))]
def P_X5_isFull (v_z_queued : Int32) (K : Int32 → Prop) : Prop := ((v_z_queued < (8 : Int32) → K (0 : Int32)) ∧ (¬ v_z_queued < (8 : Int32) → K (1 : Int32)))
set_option maxHeartbeats 4000000 in
set_option maxRecDepth 100000 in
theorem c_X5_isFull {l : Launch} {E : g_E} (h0 : Nat) (o0 o1 o2 o3 o4 o5 o6 o7 o8 o9 o10 : Value) (v_z_queued : Int32) {K : Int32 → Prop} (h : P_X5_isFull v_z_queued K) : g_CI l E yX5_isFull cX5_isFull 1 .boolean (g_Rm 0 0) [.ref h0] (W_X5_isFull E h0 o0 o1 o2 o3 o4 o5 o6 o7 o8 o9 o10 v_z_queued) (fun r (u : Unit) => K r) (fun (u : Unit) => (W_X5_isFull E h0 o0 o1 o2 o3 o4 o5 o6 o7 o8 o9 o10 v_z_queued)) := by
  refine g_entI RX5 (by decide) rfl (Nat.le_of_ble_eq_true rfl) ?_
  intro Γ X hE hl ret
  subst hE
  subst hl
  unfold P_X5_isFull at h
  show g_G Γ (g_Rm 0 0) 1 0 [(0, .ref h0)] [] (W_X5_isFull (g_env Γ) h0 o0 o1 o2 o3 o4 o5 o6 o7 o8 o9 o10 v_z_queued)
  refine g_aload_n 0 X dX5_isFull_0 0 rfl rfl ?_
  refine g_get 1 X fa_X5_27 dX5_isFull_1 0 rfl rfl ?_
  refine g_bipush 4 X (8 : Int32) dX5_isFull_4 k_bp_8 ?_
  refine g_icmp_lt 6 X 13 dX5_isFull_6 (by decide) (fun c => ?_) (fun c => ?_)
  · replace h := h.1 c
    refine g_iconst 13 X (0 : Int32) dX5_isFull_13 k_ic_0 ?_
    exact ret 14 _ _ () dX5_isFull_14 (by decide) h
  · replace h := h.2 c
    refine g_iconst 9 X (1 : Int32) dX5_isFull_9 k_ic_1 ?_
    refine g_goto 10 X 14 dX5_isFull_10 (by decide) ?_
    exact ret 14 _ _ () dX5_isFull_14 (by decide) h

def W_X5_append (E : g_E) (h0 : Nat) (h1 : Nat) (o0 o1 o2 o3 o4 o5 o6 o7 o8 o9 : Value) (v_z_queued : Int32) (v_queue : Nat → Int32) : va_W := [(h0, .inr (5, [o0, o1, .ref h1, .int v_z_queued, o2, o3, o4, o5, o6, o7, o8, o9])), (h1, .inl (E.2.1, 8, .inl v_queue))]
def P_X5_append (b1 : Int32) (v_z_queued : Int32) (v_queue : Nat → Int32) (K : Int32 → (Nat → Int32) → Prop) : Prop := (((8 : Int32) ≤ v_z_queued → K v_z_queued v_queue) ∧ (¬ (8 : Int32) ≤ v_z_queued → (vp_in v_z_queued 8 ∧ K (v_z_queued + (1 : Int32)) (upd v_queue (Int32.toNatClampNeg v_z_queued) b1))))
set_option maxHeartbeats 4000000 in
set_option maxRecDepth 100000 in
theorem c_X5_append {l : Launch} {E : g_E} (h0 : Nat) (h1 : Nat) (o0 o1 o2 o3 o4 o5 o6 o7 o8 o9 : Value) (v_z_queued : Int32) (v_queue : Nat → Int32) (b1 : Int32) {K : Int32 → (Nat → Int32) → Prop} (h : P_X5_append b1 v_z_queued v_queue K) : g_CV l E yX5_append cX5_append 2 (g_Rm 0 0) [.ref h0, .int b1] (W_X5_append E h0 h1 o0 o1 o2 o3 o4 o5 o6 o7 o8 o9 v_z_queued v_queue) (fun (u : Int32 × (Nat → Int32)) => K u.1 u.2) (fun (u : Int32 × (Nat → Int32)) => (W_X5_append E h0 h1 o0 o1 o2 o3 o4 o5 o6 o7 o8 o9 u.1 u.2)) := by
  refine g_entV RX5 (by decide) rfl (Nat.le_of_ble_eq_true rfl) ?_
  intro Γ X hE hl ret
  subst hE
  subst hl
  unfold P_X5_append at h
  show g_G Γ (g_Rm 0 0) 2 0 [(0, .ref h0), (1, .int b1)] [] (W_X5_append (g_env Γ) h0 h1 o0 o1 o2 o3 o4 o5 o6 o7 o8 o9 v_z_queued v_queue)
  refine g_aload_n 0 X dX5_append_0 0 rfl rfl ?_
  refine g_get 1 X fa_X5_27 dX5_append_1 0 rfl rfl ?_
  refine g_bipush 4 X (8 : Int32) dX5_append_4 k_bp_8 ?_
  refine g_icmp_ge 6 X 29 dX5_append_6 (by decide) (fun c => ?_) (fun c => ?_)
  · replace h := h.1 c
    exact ret 29 _ (v_z_queued, v_queue) dX5_append_29 h
  · replace h := h.2 c
    refine g_aload_n 9 X dX5_append_9 0 rfl rfl ?_
    refine g_get 10 X fa_X5_18 dX5_append_10 0 rfl rfl ?_
    refine g_aload_n 13 X dX5_append_13 0 rfl rfl ?_
    refine g_get 14 X fa_X5_27 dX5_append_14 0 rfl rfl ?_
    refine g_iload_n 17 X dX5_append_17 1 rfl rfl ?_
    have f1 := h.1; replace h := h.2
    refine g_iast 18 X (W_X5_append (g_env Γ) h0 h1 o0 o1 o2 o3 o4 o5 o6 o7 o8 o9 v_z_queued (upd v_queue (Int32.toNatClampNeg v_z_queued) b1)) dX5_append_18 1 rfl rfl f1 rfl ?_
    refine g_aload_n 19 X dX5_append_19 0 rfl rfl ?_
    refine g_dup 20 X dX5_append_20 rfl ?_
    refine g_get 21 X fa_X5_27 dX5_append_21 0 rfl rfl ?_
    refine g_iconst 24 X (1 : Int32) dX5_append_24 k_ic_1 ?_
    refine g_iadd 25 X dX5_append_25 ?_
    refine g_put 26 X (W_X5_append (g_env Γ) h0 h1 o0 o1 o2 o3 o4 o5 o6 o7 o8 o9 (v_z_queued + (1 : Int32)) (upd v_queue (Int32.toNatClampNeg v_z_queued) b1)) fa_X5_27 pa_5_3 dX5_append_26 0 rfl rfl rfl (Nat.le_of_ble_eq_true rfl) rfl ?_
    exact ret 29 _ ((v_z_queued + (1 : Int32)), (upd v_queue (Int32.toNatClampNeg v_z_queued) b1)) dX5_append_29 h

def W_X7_isFigurePlace (E : g_E) : va_W := []
def P_X7_isFigurePlace (b0 : Int32) (K : Int32 → Prop) : Prop := ((b0 < (0 : Int32) → K (0 : Int32)) ∧ (¬ b0 < (0 : Int32) → (((5 : Int32) ≤ b0 → K (0 : Int32)) ∧ (¬ (5 : Int32) ≤ b0 → K (1 : Int32)))))
set_option maxHeartbeats 4000000 in
set_option maxRecDepth 100000 in
theorem c_X7_isFigurePlace {l : Launch} {E : g_E} (b0 : Int32) {K : Int32 → Prop} (h : P_X7_isFigurePlace b0 K) : g_CI l E yX7_isFigurePlace cX7_isFigurePlace 1 .boolean (g_Rm 0 0) [.int b0] (W_X7_isFigurePlace E) (fun r (u : Unit) => K r) (fun (u : Unit) => (W_X7_isFigurePlace E)) := by
  refine g_entI RX7 (by decide) rfl (Nat.le_of_ble_eq_true rfl) ?_
  intro Γ X hE hl ret
  subst hE
  subst hl
  unfold P_X7_isFigurePlace at h
  show g_G Γ (g_Rm 0 0) 1 0 [(0, .int b0)] [] (W_X7_isFigurePlace (g_env Γ))
  refine g_iload_n 0 X dX7_isFigurePlace_0 0 rfl rfl ?_
  refine g_if_lt 1 X 13 dX7_isFigurePlace_1 (by decide) (fun c => ?_) (fun c => ?_)
  · replace h := h.1 c
    refine g_iconst 13 X (0 : Int32) dX7_isFigurePlace_13 k_ic_0 ?_
    exact ret 14 _ _ () dX7_isFigurePlace_14 (by decide) h
  · replace h := h.2 c
    refine g_iload_n 4 X dX7_isFigurePlace_4 0 rfl rfl ?_
    refine g_iconst 5 X (5 : Int32) dX7_isFigurePlace_5 k_ic_5 ?_
    refine g_icmp_ge 6 X 13 dX7_isFigurePlace_6 (by decide) (fun c => ?_) (fun c => ?_)
    · replace h := h.1 c
      refine g_iconst 13 X (0 : Int32) dX7_isFigurePlace_13 k_ic_0 ?_
      exact ret 14 _ _ () dX7_isFigurePlace_14 (by decide) h
    · replace h := h.2 c
      refine g_iconst 9 X (1 : Int32) dX7_isFigurePlace_9 k_ic_1 ?_
      refine g_goto 10 X 14 dX7_isFigurePlace_10 (by decide) ?_
      exact ret 14 _ _ () dX7_isFigurePlace_14 (by decide) h

def W_X5_mayTell (E : g_E) (h0 : Nat) (h1 : Nat) (o0 o1 o2 o3 o4 o5 o6 o7 o8 o9 o10 : Value) (v_figures : Nat → Int32) : va_W := [(h0, .inr (5, [o0, .ref h1, o1, o2, o3, o4, o5, o6, o7, o8, o9, o10])), (h1, .inl (E.2.1, 5, .inl v_figures))]
def P_X5_mayTell (b1 : Int32) (b2 : Int32) (v_figures : Nat → Int32) (K : Int32 → Prop) : Prop := (P_X7_isFigurePlace b1 (fun r1 => ((¬ r1 = (0 : Int32) → ((¬ b1 = (0 : Int32) → (vp_in (b1 - (1 : Int32)) 5 ∧ ((¬ b1 = (4 : Int32) → (vp_in (b1 + (1 : Int32)) 5 ∧ ((b2 < (v_figures (Int32.toNatClampNeg (b1 + (1 : Int32)))) → K (0 : Int32)) ∧ (¬ b2 < (v_figures (Int32.toNatClampNeg (b1 + (1 : Int32)))) → (((v_figures (Int32.toNatClampNeg (b1 - (1 : Int32)))) < b2 → K (0 : Int32)) ∧ (¬ (v_figures (Int32.toNatClampNeg (b1 - (1 : Int32)))) < b2 → K (1 : Int32))))))) ∧ (b1 = (4 : Int32) → ((b2 < (0 : Int32) → K (0 : Int32)) ∧ (¬ b2 < (0 : Int32) → (((v_figures (Int32.toNatClampNeg (b1 - (1 : Int32)))) < b2 → K (0 : Int32)) ∧ (¬ (v_figures (Int32.toNatClampNeg (b1 - (1 : Int32)))) < b2 → K (1 : Int32))))))))) ∧ (b1 = (0 : Int32) → ((¬ b1 = (4 : Int32) → (vp_in (b1 + (1 : Int32)) 5 ∧ ((b2 < (v_figures (Int32.toNatClampNeg (b1 + (1 : Int32)))) → K (0 : Int32)) ∧ (¬ b2 < (v_figures (Int32.toNatClampNeg (b1 + (1 : Int32)))) → (((9 : Int32) < b2 → K (0 : Int32)) ∧ (¬ (9 : Int32) < b2 → K (1 : Int32))))))) ∧ (b1 = (4 : Int32) → ((b2 < (0 : Int32) → K (0 : Int32)) ∧ (¬ b2 < (0 : Int32) → (((9 : Int32) < b2 → K (0 : Int32)) ∧ (¬ (9 : Int32) < b2 → K (1 : Int32)))))))))) ∧ (r1 = (0 : Int32) → K (0 : Int32)))))
set_option maxHeartbeats 4000000 in
set_option maxRecDepth 100000 in
theorem c_X5_mayTell {l : Launch} {E : g_E} (h0 : Nat) (h1 : Nat) (o0 o1 o2 o3 o4 o5 o6 o7 o8 o9 o10 : Value) (v_figures : Nat → Int32) (b1 : Int32) (b2 : Int32) {K : Int32 → Prop} (h : P_X5_mayTell b1 b2 v_figures K) : g_CI l E yX5_mayTell cX5_mayTell 5 .boolean (g_Rm 1 20) [.ref h0, .int b1, .int b2] (W_X5_mayTell E h0 h1 o0 o1 o2 o3 o4 o5 o6 o7 o8 o9 o10 v_figures) (fun r (u : Unit) => K r) (fun (u : Unit) => (W_X5_mayTell E h0 h1 o0 o1 o2 o3 o4 o5 o6 o7 o8 o9 o10 v_figures)) := by
  refine g_entI RX5 (by decide) rfl (Nat.le_of_ble_eq_true rfl) ?_
  intro Γ X hE hl ret
  subst hE
  subst hl
  unfold P_X5_mayTell at h
  show g_G Γ (g_Rm 1 20) 5 0 [(0, .ref h0), (1, .int b1), (2, .int b2)] [] (W_X5_mayTell (g_env Γ) h0 h1 o0 o1 o2 o3 o4 o5 o6 o7 o8 o9 o10 v_figures)
  refine g_iload_n 0 X dX5_mayTell_0 1 rfl rfl ?_
  refine g_cNI 1 X (st := []) mv_X5_61 dX5_mayTell_1 [.int b1] (c_X7_isFigurePlace b1 h) [] (fun u : Unit => (W_X5_mayTell (g_env Γ) h0 h1 o0 o1 o2 o3 o4 o5 o6 o7 o8 o9 o10 v_figures)) rfl ⟨(Nat.le_of_ble_eq_true rfl), (Nat.le_of_ble_eq_true rfl)⟩ ⟨rfl, rfl⟩ (Nat.le_of_ble_eq_true rfl) rfl (by decide) (fun _ => rfl) (fun _ => rfl) (fun r1 u h => ?_)
  refine g_if_ne 4 X 9 dX5_mayTell_4 (by decide) (fun c => ?_) (fun c => ?_)
  · replace h := h.1 c
    refine g_iload_n 9 X dX5_mayTell_9 1 rfl rfl ?_
    refine g_if_ne 10 X 18 dX5_mayTell_10 (by decide) (fun c => ?_) (fun c => ?_)
    · replace h := h.1 c
      refine g_aload_n 18 X dX5_mayTell_18 0 rfl rfl ?_
      refine g_get 19 X fa_X5_15 dX5_mayTell_19 0 rfl rfl ?_
      refine g_iload_n 22 X dX5_mayTell_22 1 rfl rfl ?_
      refine g_iconst 23 X (1 : Int32) dX5_mayTell_23 k_ic_1 ?_
      refine g_isub 24 X dX5_mayTell_24 ?_
      have f2 := h.1; replace h := h.2
      refine g_iald 25 X dX5_mayTell_25 1 rfl rfl f2 ?_
      refine g_istore_n 26 X [(3, .int (v_figures (Int32.toNatClampNeg (b1 - (1 : Int32))))), (0, .ref h0), (1, .int b1), (2, .int b2)] dX5_mayTell_26 rfl (Nat.le_of_ble_eq_true rfl) rfl ?_
      refine g_iload_n 27 X dX5_mayTell_27 2 rfl rfl ?_
      refine g_iconst 28 X (4 : Int32) dX5_mayTell_28 k_ic_4 ?_
      refine g_icmp_ne 29 X 36 dX5_mayTell_29 (by decide) (fun c => ?_) (fun c => ?_)
      · replace h := h.1 c
        refine g_aload_n 36 X dX5_mayTell_36 1 rfl rfl ?_
        refine g_get 37 X fa_X5_15 dX5_mayTell_37 0 rfl rfl ?_
        refine g_iload_n 40 X dX5_mayTell_40 2 rfl rfl ?_
        refine g_iconst 41 X (1 : Int32) dX5_mayTell_41 k_ic_1 ?_
        refine g_iadd 42 X dX5_mayTell_42 ?_
        have f3 := h.1; replace h := h.2
        refine g_iald 43 X dX5_mayTell_43 1 rfl rfl f3 ?_
        refine g_istore 44 X [(4, .int (v_figures (Int32.toNatClampNeg (b1 + (1 : Int32))))), (3, .int (v_figures (Int32.toNatClampNeg (b1 - (1 : Int32))))), (0, .ref h0), (1, .int b1), (2, .int b2)] dX5_mayTell_44 (Nat.le_of_ble_eq_true rfl) rfl ?_
        refine g_iload_n 46 X dX5_mayTell_46 4 rfl rfl ?_
        refine g_iload 47 X dX5_mayTell_47 0 rfl ?_
        refine g_icmp_lt 49 X 61 dX5_mayTell_49 (by decide) (fun c => ?_) (fun c => ?_)
        · replace h := h.1 c
          refine g_iconst 61 X (0 : Int32) dX5_mayTell_61 k_ic_0 ?_
          exact ret 62 _ _ () dX5_mayTell_62 (by decide) h
        · replace h := h.2 c
          refine g_iload_n 52 X dX5_mayTell_52 4 rfl rfl ?_
          refine g_iload_n 53 X dX5_mayTell_53 1 rfl rfl ?_
          refine g_icmp_gt 54 X 61 dX5_mayTell_54 (by decide) (fun c => ?_) (fun c => ?_)
          · replace h := h.1 c
            refine g_iconst 61 X (0 : Int32) dX5_mayTell_61 k_ic_0 ?_
            exact ret 62 _ _ () dX5_mayTell_62 (by decide) h
          · replace h := h.2 c
            refine g_iconst 57 X (1 : Int32) dX5_mayTell_57 k_ic_1 ?_
            refine g_goto 58 X 62 dX5_mayTell_58 (by decide) ?_
            exact ret 62 _ _ () dX5_mayTell_62 (by decide) h
      · replace h := h.2 c
        refine g_iconst 32 X (0 : Int32) dX5_mayTell_32 k_ic_0 ?_
        refine g_goto 33 X 44 dX5_mayTell_33 (by decide) ?_
        refine g_istore 44 X [(4, .int (0 : Int32)), (3, .int (v_figures (Int32.toNatClampNeg (b1 - (1 : Int32))))), (0, .ref h0), (1, .int b1), (2, .int b2)] dX5_mayTell_44 (Nat.le_of_ble_eq_true rfl) rfl ?_
        refine g_iload_n 46 X dX5_mayTell_46 4 rfl rfl ?_
        refine g_iload 47 X dX5_mayTell_47 0 rfl ?_
        refine g_icmp_lt 49 X 61 dX5_mayTell_49 (by decide) (fun c => ?_) (fun c => ?_)
        · replace h := h.1 c
          refine g_iconst 61 X (0 : Int32) dX5_mayTell_61 k_ic_0 ?_
          exact ret 62 _ _ () dX5_mayTell_62 (by decide) h
        · replace h := h.2 c
          refine g_iload_n 52 X dX5_mayTell_52 4 rfl rfl ?_
          refine g_iload_n 53 X dX5_mayTell_53 1 rfl rfl ?_
          refine g_icmp_gt 54 X 61 dX5_mayTell_54 (by decide) (fun c => ?_) (fun c => ?_)
          · replace h := h.1 c
            refine g_iconst 61 X (0 : Int32) dX5_mayTell_61 k_ic_0 ?_
            exact ret 62 _ _ () dX5_mayTell_62 (by decide) h
          · replace h := h.2 c
            refine g_iconst 57 X (1 : Int32) dX5_mayTell_57 k_ic_1 ?_
            refine g_goto 58 X 62 dX5_mayTell_58 (by decide) ?_
            exact ret 62 _ _ () dX5_mayTell_62 (by decide) h
    · replace h := h.2 c
      refine g_bipush 13 X (9 : Int32) dX5_mayTell_13 k_bp_9 ?_
      refine g_goto 15 X 26 dX5_mayTell_15 (by decide) ?_
      refine g_istore_n 26 X [(3, .int (9 : Int32)), (0, .ref h0), (1, .int b1), (2, .int b2)] dX5_mayTell_26 rfl (Nat.le_of_ble_eq_true rfl) rfl ?_
      refine g_iload_n 27 X dX5_mayTell_27 2 rfl rfl ?_
      refine g_iconst 28 X (4 : Int32) dX5_mayTell_28 k_ic_4 ?_
      refine g_icmp_ne 29 X 36 dX5_mayTell_29 (by decide) (fun c => ?_) (fun c => ?_)
      · replace h := h.1 c
        refine g_aload_n 36 X dX5_mayTell_36 1 rfl rfl ?_
        refine g_get 37 X fa_X5_15 dX5_mayTell_37 0 rfl rfl ?_
        refine g_iload_n 40 X dX5_mayTell_40 2 rfl rfl ?_
        refine g_iconst 41 X (1 : Int32) dX5_mayTell_41 k_ic_1 ?_
        refine g_iadd 42 X dX5_mayTell_42 ?_
        have f4 := h.1; replace h := h.2
        refine g_iald 43 X dX5_mayTell_43 1 rfl rfl f4 ?_
        refine g_istore 44 X [(4, .int (v_figures (Int32.toNatClampNeg (b1 + (1 : Int32))))), (3, .int (9 : Int32)), (0, .ref h0), (1, .int b1), (2, .int b2)] dX5_mayTell_44 (Nat.le_of_ble_eq_true rfl) rfl ?_
        refine g_iload_n 46 X dX5_mayTell_46 4 rfl rfl ?_
        refine g_iload 47 X dX5_mayTell_47 0 rfl ?_
        refine g_icmp_lt 49 X 61 dX5_mayTell_49 (by decide) (fun c => ?_) (fun c => ?_)
        · replace h := h.1 c
          refine g_iconst 61 X (0 : Int32) dX5_mayTell_61 k_ic_0 ?_
          exact ret 62 _ _ () dX5_mayTell_62 (by decide) h
        · replace h := h.2 c
          refine g_iload_n 52 X dX5_mayTell_52 4 rfl rfl ?_
          refine g_iload_n 53 X dX5_mayTell_53 1 rfl rfl ?_
          refine g_icmp_gt 54 X 61 dX5_mayTell_54 (by decide) (fun c => ?_) (fun c => ?_)
          · replace h := h.1 c
            refine g_iconst 61 X (0 : Int32) dX5_mayTell_61 k_ic_0 ?_
            exact ret 62 _ _ () dX5_mayTell_62 (by decide) h
          · replace h := h.2 c
            refine g_iconst 57 X (1 : Int32) dX5_mayTell_57 k_ic_1 ?_
            refine g_goto 58 X 62 dX5_mayTell_58 (by decide) ?_
            exact ret 62 _ _ () dX5_mayTell_62 (by decide) h
      · replace h := h.2 c
        refine g_iconst 32 X (0 : Int32) dX5_mayTell_32 k_ic_0 ?_
        refine g_goto 33 X 44 dX5_mayTell_33 (by decide) ?_
        refine g_istore 44 X [(4, .int (0 : Int32)), (3, .int (9 : Int32)), (0, .ref h0), (1, .int b1), (2, .int b2)] dX5_mayTell_44 (Nat.le_of_ble_eq_true rfl) rfl ?_
        refine g_iload_n 46 X dX5_mayTell_46 4 rfl rfl ?_
        refine g_iload 47 X dX5_mayTell_47 0 rfl ?_
        refine g_icmp_lt 49 X 61 dX5_mayTell_49 (by decide) (fun c => ?_) (fun c => ?_)
        · replace h := h.1 c
          refine g_iconst 61 X (0 : Int32) dX5_mayTell_61 k_ic_0 ?_
          exact ret 62 _ _ () dX5_mayTell_62 (by decide) h
        · replace h := h.2 c
          refine g_iload_n 52 X dX5_mayTell_52 4 rfl rfl ?_
          refine g_iload_n 53 X dX5_mayTell_53 1 rfl rfl ?_
          refine g_icmp_gt 54 X 61 dX5_mayTell_54 (by decide) (fun c => ?_) (fun c => ?_)
          · replace h := h.1 c
            refine g_iconst 61 X (0 : Int32) dX5_mayTell_61 k_ic_0 ?_
            exact ret 62 _ _ () dX5_mayTell_62 (by decide) h
          · replace h := h.2 c
            refine g_iconst 57 X (1 : Int32) dX5_mayTell_57 k_ic_1 ?_
            refine g_goto 58 X 62 dX5_mayTell_58 (by decide) ?_
            exact ret 62 _ _ () dX5_mayTell_62 (by decide) h
  · replace h := h.2 c
    refine g_iconst 7 X (0 : Int32) dX5_mayTell_7 k_ic_0 ?_
    exact ret 8 _ _ () dX5_mayTell_8 (by decide) h

def W_X5_allHeat (E : g_E) (h0 : Nat) (h1 : Nat) (o0 o1 o2 o3 o4 o5 o6 o7 o8 o9 o10 : Value) (v_heats : Nat → Int32) : va_W := [(h0, .inr (5, [.ref h1, o0, o1, o2, o3, o4, o5, o6, o7, o8, o9, o10])), (h1, .inl (E.2.1, 8, .inl v_heats))]
def P_X5_allHeat_L4 (v_heats : Nat → Int32) (C25 : Int32 → Prop) : Nat → Int32 → Int32 → Prop
  | 0, _, _ => False
  | n + 1, x1, x2 => (((8 : Int32) ≤ x2 → C25 x1) ∧ (¬ (8 : Int32) ≤ x2 → (vp_in x2 8 ∧ P_X5_allHeat_L4 v_heats C25 n (x1 + (v_heats (Int32.toNatClampNeg x2))) (x2 + (1 : Int32)))))
def P_X5_allHeat (v_heats : Nat → Int32) (K : Int32 → Prop) : Prop := (∃ ne : Nat, P_X5_allHeat_L4 v_heats (fun x3 => K x3) ne (0 : Int32) (0 : Int32))
set_option maxHeartbeats 4000000 in
set_option maxRecDepth 100000 in
theorem l_X5_allHeat_4 {Γ : g_C} (X : g_X Γ (g_Rm 0 0) cX5_allHeat RX5 3) (h0 : Nat) (h1 : Nat) (o0 o1 o2 o3 o4 o5 o6 o7 o8 o9 o10 : Value) (v_heats : Nat → Int32) {C25 : Int32 → Prop} (hC25 : ∀ (x1 : Int32), C25 x1 → g_G Γ (g_Rm 0 0) 3 25 [(1, .int x1)] [] (W_X5_allHeat (g_env Γ) h0 h1 o0 o1 o2 o3 o4 o5 o6 o7 o8 o9 o10 v_heats)) : ∀ (n : Nat) (x1 : Int32) (x2 : Int32), P_X5_allHeat_L4 v_heats C25 n x1 x2 → g_G Γ (g_Rm 0 0) 3 4 [(0, .ref h0), (1, .int x1), (2, .int x2)] [] (W_X5_allHeat (g_env Γ) h0 h1 o0 o1 o2 o3 o4 o5 o6 o7 o8 o9 o10 v_heats) := by
  intro n
  induction n with
  | zero => intro x1 x2 h; exact False.elim h
  | succ n ih =>
    intro x1 x2 h
    unfold P_X5_allHeat_L4 at h
    refine g_iload_n 4 X dX5_allHeat_4 2 rfl rfl ?_
    refine g_bipush 5 X (8 : Int32) dX5_allHeat_5 k_bp_8 ?_
    refine g_icmp_ge 7 X 25 dX5_allHeat_7 (by decide) (fun c => ?_) (fun c => ?_)
    · replace h := h.1 c
      refine g_sub [(1, .int x1)] [1] rfl ?_
      exact hC25 x1 h
    · replace h := h.2 c
      refine g_iload_n 10 X dX5_allHeat_10 1 rfl rfl ?_
      refine g_aload_n 11 X dX5_allHeat_11 0 rfl rfl ?_
      refine g_get 12 X fa_X5_9 dX5_allHeat_12 0 rfl rfl ?_
      refine g_iload_n 15 X dX5_allHeat_15 2 rfl rfl ?_
      have f2 := h.1; replace h := h.2
      refine g_iald 16 X dX5_allHeat_16 1 rfl rfl f2 ?_
      refine g_iadd 17 X dX5_allHeat_17 ?_
      refine g_istore_n 18 X [(1, .int (x1 + (v_heats (Int32.toNatClampNeg x2)))), (0, .ref h0), (2, .int x2)] dX5_allHeat_18 rfl (Nat.le_of_ble_eq_true rfl) rfl ?_
      refine g_iinc 19 X (x2 + (1 : Int32)) [(2, .int (x2 + (1 : Int32))), (1, .int (x1 + (v_heats (Int32.toNatClampNeg x2)))), (0, .ref h0)] dX5_allHeat_19 2 rfl (k_ii_1 _) (Nat.le_of_ble_eq_true rfl) rfl ?_
      refine g_goto 22 X 4 dX5_allHeat_22 (by decide) ?_
      refine g_sub [(0, .ref h0), (1, .int (x1 + (v_heats (Int32.toNatClampNeg x2)))), (2, .int (x2 + (1 : Int32)))] [2, 1, 0] rfl ?_
      exact ih (x1 + (v_heats (Int32.toNatClampNeg x2))) (x2 + (1 : Int32)) h
set_option maxHeartbeats 4000000 in
set_option maxRecDepth 100000 in
theorem c_X5_allHeat {l : Launch} {E : g_E} (h0 : Nat) (h1 : Nat) (o0 o1 o2 o3 o4 o5 o6 o7 o8 o9 o10 : Value) (v_heats : Nat → Int32) {K : Int32 → Prop} (h : P_X5_allHeat v_heats K) : g_CI l E yX5_allHeat cX5_allHeat 3 .int (g_Rm 0 0) [.ref h0] (W_X5_allHeat E h0 h1 o0 o1 o2 o3 o4 o5 o6 o7 o8 o9 o10 v_heats) (fun r (u : Unit) => K r) (fun (u : Unit) => (W_X5_allHeat E h0 h1 o0 o1 o2 o3 o4 o5 o6 o7 o8 o9 o10 v_heats)) := by
  refine g_entI RX5 (by decide) rfl (Nat.le_of_ble_eq_true rfl) ?_
  intro Γ X hE hl ret
  subst hE
  subst hl
  unfold P_X5_allHeat at h
  show g_G Γ (g_Rm 0 0) 3 0 [(0, .ref h0)] [] (W_X5_allHeat (g_env Γ) h0 h1 o0 o1 o2 o3 o4 o5 o6 o7 o8 o9 o10 v_heats)
  refine g_iconst 0 X (0 : Int32) dX5_allHeat_0 k_ic_0 ?_
  refine g_istore_n 1 X [(1, .int (0 : Int32)), (0, .ref h0)] dX5_allHeat_1 rfl (Nat.le_of_ble_eq_true rfl) rfl ?_
  refine g_iconst 2 X (0 : Int32) dX5_allHeat_2 k_ic_0 ?_
  refine g_istore_n 3 X [(2, .int (0 : Int32)), (1, .int (0 : Int32)), (0, .ref h0)] dX5_allHeat_3 rfl (Nat.le_of_ble_eq_true rfl) rfl ?_
  obtain ⟨n4, h⟩ := h
  refine g_sub [(0, .ref h0), (1, .int (0 : Int32)), (2, .int (0 : Int32))] [2, 1, 0] rfl ?_
  refine l_X5_allHeat_4 X h0 h1 o0 o1 o2 o3 o4 o5 o6 o7 o8 o9 o10 v_heats (fun x3 h => ?_) n4 (0 : Int32) (0 : Int32) h
  · refine g_iload_n 25 X dX5_allHeat_25 0 rfl rfl ?_
    exact ret 26 _ _ () dX5_allHeat_26 (vp_nar_int _) h

def W_X6_append (E : g_E) (h0 : Nat) (h1 : Nat) (v_z_length : Int32) (v_letters : Nat → Int32) : va_W := [(h0, .inr (6, [.ref h1, .int v_z_length])), (h1, .inl (E.2.1, 99, .inl v_letters))]
def P_X6_append (b1 : Int32) (v_z_length : Int32) (v_letters : Nat → Int32) (K : Int32 → Int32 → (Nat → Int32) → Prop) : Prop := ((v_z_length < (99 : Int32) → (vp_in v_z_length 99 ∧ K (1 : Int32) (v_z_length + (1 : Int32)) (upd v_letters (Int32.toNatClampNeg v_z_length) b1))) ∧ (¬ v_z_length < (99 : Int32) → K (0 : Int32) v_z_length v_letters))
set_option maxHeartbeats 4000000 in
set_option maxRecDepth 100000 in
theorem c_X6_append {l : Launch} {E : g_E} (h0 : Nat) (h1 : Nat) (v_z_length : Int32) (v_letters : Nat → Int32) (b1 : Int32) {K : Int32 → Int32 → (Nat → Int32) → Prop} (h : P_X6_append b1 v_z_length v_letters K) : g_CI l E yX6_append cX6_append 2 .boolean (g_Rm 0 0) [.ref h0, .int b1] (W_X6_append E h0 h1 v_z_length v_letters) (fun r (u : Int32 × (Nat → Int32)) => K r u.1 u.2) (fun (u : Int32 × (Nat → Int32)) => (W_X6_append E h0 h1 u.1 u.2)) := by
  refine g_entI RX6 (by decide) rfl (Nat.le_of_ble_eq_true rfl) ?_
  intro Γ X hE hl ret
  subst hE
  subst hl
  unfold P_X6_append at h
  show g_G Γ (g_Rm 0 0) 2 0 [(0, .ref h0), (1, .int b1)] [] (W_X6_append (g_env Γ) h0 h1 v_z_length v_letters)
  refine g_aload_n 0 X dX6_append_0 0 rfl rfl ?_
  refine g_get 1 X fa_X6_15 dX6_append_1 0 rfl rfl ?_
  refine g_bipush 4 X (99 : Int32) dX6_append_4 k_bp_99 ?_
  refine g_icmp_lt 6 X 11 dX6_append_6 (by decide) (fun c => ?_) (fun c => ?_)
  · replace h := h.1 c
    refine g_aload_n 11 X dX6_append_11 0 rfl rfl ?_
    refine g_get 12 X fa_X6_9 dX6_append_12 0 rfl rfl ?_
    refine g_aload_n 15 X dX6_append_15 0 rfl rfl ?_
    refine g_get 16 X fa_X6_15 dX6_append_16 0 rfl rfl ?_
    refine g_iload_n 19 X dX6_append_19 1 rfl rfl ?_
    have f1 := h.1; replace h := h.2
    refine g_iast 20 X (W_X6_append (g_env Γ) h0 h1 v_z_length (upd v_letters (Int32.toNatClampNeg v_z_length) b1)) dX6_append_20 1 rfl rfl f1 rfl ?_
    refine g_aload_n 21 X dX6_append_21 0 rfl rfl ?_
    refine g_dup 22 X dX6_append_22 rfl ?_
    refine g_get 23 X fa_X6_15 dX6_append_23 0 rfl rfl ?_
    refine g_iconst 26 X (1 : Int32) dX6_append_26 k_ic_1 ?_
    refine g_iadd 27 X dX6_append_27 ?_
    refine g_put 28 X (W_X6_append (g_env Γ) h0 h1 (v_z_length + (1 : Int32)) (upd v_letters (Int32.toNatClampNeg v_z_length) b1)) fa_X6_15 pa_6_1 dX6_append_28 0 rfl rfl rfl (Nat.le_of_ble_eq_true rfl) rfl ?_
    refine g_iconst 31 X (1 : Int32) dX6_append_31 k_ic_1 ?_
    exact ret 32 _ _ ((v_z_length + (1 : Int32)), (upd v_letters (Int32.toNatClampNeg v_z_length) b1)) dX6_append_32 (by decide) h
  · replace h := h.2 c
    refine g_iconst 9 X (0 : Int32) dX6_append_9 k_ic_0 ?_
    exact ret 10 _ _ (v_z_length, v_letters) dX6_append_10 (by decide) h

def W_X6_figureAt (E : g_E) (h0 : Nat) (h1 : Nat) (o0 : Value) (v_letters : Nat → Int32) : va_W := [(h0, .inr (6, [.ref h1, o0])), (h1, .inl (E.2.1, 99, .inl v_letters))]
def P_X6_figureAt (b1 : Int32) (v_letters : Nat → Int32) (K : Int32 → Prop) : Prop := (vp_in b1 99 ∧ K ((v_letters (Int32.toNatClampNeg b1)) - (48 : Int32)))
set_option maxHeartbeats 4000000 in
set_option maxRecDepth 100000 in
theorem c_X6_figureAt {l : Launch} {E : g_E} (h0 : Nat) (h1 : Nat) (o0 : Value) (v_letters : Nat → Int32) (b1 : Int32) {K : Int32 → Prop} (h : P_X6_figureAt b1 v_letters K) : g_CI l E yX6_figureAt cX6_figureAt 2 .int (g_Rm 0 0) [.ref h0, .int b1] (W_X6_figureAt E h0 h1 o0 v_letters) (fun r (u : Unit) => K r) (fun (u : Unit) => (W_X6_figureAt E h0 h1 o0 v_letters)) := by
  refine g_entI RX6 (by decide) rfl (Nat.le_of_ble_eq_true rfl) ?_
  intro Γ X hE hl ret
  subst hE
  subst hl
  unfold P_X6_figureAt at h
  show g_G Γ (g_Rm 0 0) 2 0 [(0, .ref h0), (1, .int b1)] [] (W_X6_figureAt (g_env Γ) h0 h1 o0 v_letters)
  refine g_aload_n 0 X dX6_figureAt_0 0 rfl rfl ?_
  refine g_get 1 X fa_X6_9 dX6_figureAt_1 0 rfl rfl ?_
  refine g_iload_n 4 X dX6_figureAt_4 1 rfl rfl ?_
  have f1 := h.1; replace h := h.2
  refine g_iald 5 X dX6_figureAt_5 1 rfl rfl f1 ?_
  refine g_bipush 6 X (48 : Int32) dX6_figureAt_6 k_bp_48 ?_
  refine g_isub 8 X dX6_figureAt_8 ?_
  exact ret 9 _ _ () dX6_figureAt_9 (vp_nar_int _) h

def W_X6_lineLength (E : g_E) (h0 : Nat) (h1 : Nat) (o0 : Value) (v_letters : Nat → Int32) : va_W := [(h0, .inr (6, [.ref h1, o0])), (h1, .inl (E.2.1, 99, .inl v_letters))]
def P_X6_lineLength (v_letters : Nat → Int32) (K : Int32 → Prop) : Prop := (P_X6_figureAt (1 : Int32) v_letters (fun r1 => K ((if (1 : Int32) < r1 then r1 else (1 : Int32)) + (1 : Int32))))
set_option maxHeartbeats 4000000 in
set_option maxRecDepth 100000 in
theorem c_X6_lineLength {l : Launch} {E : g_E} (h0 : Nat) (h1 : Nat) (o0 : Value) (v_letters : Nat → Int32) {K : Int32 → Prop} (h : P_X6_lineLength v_letters K) : g_CI l E yX6_lineLength cX6_lineLength 1 .int (g_Rm 1 24) [.ref h0] (W_X6_lineLength E h0 h1 o0 v_letters) (fun r (u : Unit) => K r) (fun (u : Unit) => (W_X6_lineLength E h0 h1 o0 v_letters)) := by
  refine g_entI RX6 (by decide) rfl (Nat.le_of_ble_eq_true rfl) ?_
  intro Γ X hE hl ret
  subst hE
  subst hl
  unfold P_X6_lineLength at h
  show g_G Γ (g_Rm 1 24) 1 0 [(0, .ref h0)] [] (W_X6_lineLength (g_env Γ) h0 h1 o0 v_letters)
  refine g_iconst 0 X (1 : Int32) dX6_lineLength_0 k_ic_1 ?_
  refine g_aload_n 1 X dX6_lineLength_1 0 rfl rfl ?_
  refine g_iconst 2 X (1 : Int32) dX6_lineLength_2 k_ic_1 ?_
  refine g_cVI 3 X (st := [.int (1 : Int32)]) mv_X6_27 dX6_lineLength_3 h0 6 [.int (1 : Int32)] (c_X6_figureAt h0 h1 o0 v_letters (1 : Int32) h) [0, 1] (fun u : Unit => (W_X6_lineLength (g_env Γ) h0 h1 o0 v_letters)) rfl ⟨(Nat.le_of_ble_eq_true rfl), (Nat.le_of_ble_eq_true rfl)⟩ ⟨rfl, rfl⟩ (Nat.le_of_ble_eq_true rfl) rfl rfl rfl (by decide) (fun _ => rfl) (fun _ => rfl) (fun r1 u h => ?_)
  refine g_mmax 6 X dX6_lineLength_6 ml_X6_31 (Nat.le_of_ble_eq_true rfl) (Nat.le_of_ble_eq_true rfl) ?_
  refine g_iconst 9 X (1 : Int32) dX6_lineLength_9 k_ic_1 ?_
  refine g_iadd 10 X dX6_lineLength_10 ?_
  exact ret 11 _ _ () dX6_lineLength_11 (vp_nar_int _) h

def W_X6_fits (E : g_E) (h0 : Nat) (h1 : Nat) (o0 : Value) (v_letters : Nat → Int32) : va_W := [(h0, .inr (6, [.ref h1, o0])), (h1, .inl (E.2.1, 99, .inl v_letters))]
def P_X6_fits (b1 : Int32) (v_letters : Nat → Int32) (K : Int32 → Prop) : Prop := (vp_in b1 99 ∧ (((b1.toInt < 0 ∨ 0 + (4 : Nat) ≤ b1.toInt) → (((18 : Int32) ≤ b1 → (P_X6_lineLength v_letters (fun r2 => (¬ r2 = 0 ∧ ((¬ ((b1 - (18 : Int32)) - (b1 - (18 : Int32)) / r2 * r2) = (0 : Int32) → (((v_letters (Int32.toNatClampNeg b1)) = (111 : Int32) → K (1 : Int32)) ∧ (¬ (v_letters (Int32.toNatClampNeg b1)) = (111 : Int32) → ((¬ (v_letters (Int32.toNatClampNeg b1)) = (45 : Int32) → K (0 : Int32)) ∧ ((v_letters (Int32.toNatClampNeg b1)) = (45 : Int32) → K (1 : Int32)))))) ∧ (((b1 - (18 : Int32)) - (b1 - (18 : Int32)) / r2 * r2) = (0 : Int32) → ((¬ (v_letters (Int32.toNatClampNeg b1)) = (108 : Int32) → K (0 : Int32)) ∧ ((v_letters (Int32.toNatClampNeg b1)) = (108 : Int32) → (P_X6_lineLength v_letters (fun r4 => (¬ r4 = 0 ∧ (((8 : Int32) ≤ ((b1 - (18 : Int32)) / r4) → K (0 : Int32)) ∧ (¬ (8 : Int32) ≤ ((b1 - (18 : Int32)) / r4) → K (1 : Int32)))))))))))))) ∧ (¬ (18 : Int32) ≤ b1 → (((v_letters (Int32.toNatClampNeg b1)) < (48 : Int32) → (((0 : Int32) = (0 : Int32) → K (0 : Int32)) ∧ (¬ (0 : Int32) = (0 : Int32) → ((b1 ≤ (13 : Int32) → K (1 : Int32)) ∧ (¬ b1 ≤ (13 : Int32) → (vp_in (b1 - (1 : Int32)) 99 ∧ (((v_letters (Int32.toNatClampNeg (b1 - (1 : Int32)))) < (v_letters (Int32.toNatClampNeg b1)) → K (0 : Int32)) ∧ (¬ (v_letters (Int32.toNatClampNeg (b1 - (1 : Int32)))) < (v_letters (Int32.toNatClampNeg b1)) → K (1 : Int32))))))))) ∧ (¬ (v_letters (Int32.toNatClampNeg b1)) < (48 : Int32) → (((57 : Int32) < (v_letters (Int32.toNatClampNeg b1)) → (((0 : Int32) = (0 : Int32) → K (0 : Int32)) ∧ (¬ (0 : Int32) = (0 : Int32) → ((b1 ≤ (13 : Int32) → K (1 : Int32)) ∧ (¬ b1 ≤ (13 : Int32) → (vp_in (b1 - (1 : Int32)) 99 ∧ (((v_letters (Int32.toNatClampNeg (b1 - (1 : Int32)))) < (v_letters (Int32.toNatClampNeg b1)) → K (0 : Int32)) ∧ (¬ (v_letters (Int32.toNatClampNeg (b1 - (1 : Int32)))) < (v_letters (Int32.toNatClampNeg b1)) → K (1 : Int32))))))))) ∧ (¬ (57 : Int32) < (v_letters (Int32.toNatClampNeg b1)) → (((1 : Int32) = (0 : Int32) → K (0 : Int32)) ∧ (¬ (1 : Int32) = (0 : Int32) → ((b1 ≤ (13 : Int32) → K (1 : Int32)) ∧ (¬ b1 ≤ (13 : Int32) → (vp_in (b1 - (1 : Int32)) 99 ∧ (((v_letters (Int32.toNatClampNeg (b1 - (1 : Int32)))) < (v_letters (Int32.toNatClampNeg b1)) → K (0 : Int32)) ∧ (¬ (v_letters (Int32.toNatClampNeg (b1 - (1 : Int32)))) < (v_letters (Int32.toNatClampNeg b1)) → K (1 : Int32))))))))))))))) ∧ (b1 = (0 : Int32) → ((¬ (v_letters (Int32.toNatClampNeg b1)) = (72 : Int32) → K (0 : Int32)) ∧ ((v_letters (Int32.toNatClampNeg b1)) = (72 : Int32) → K (1 : Int32)))) ∧ (b1 = (1 : Int32) → (((v_letters (Int32.toNatClampNeg b1)) < (49 : Int32) → K (0 : Int32)) ∧ (¬ (v_letters (Int32.toNatClampNeg b1)) < (49 : Int32) → (((56 : Int32) < (v_letters (Int32.toNatClampNeg b1)) → K (0 : Int32)) ∧ (¬ (56 : Int32) < (v_letters (Int32.toNatClampNeg b1)) → K (1 : Int32)))))) ∧ (b1 = (2 : Int32) → (((v_letters (Int32.toNatClampNeg b1)) < (49 : Int32) → K (0 : Int32)) ∧ (¬ (v_letters (Int32.toNatClampNeg b1)) < (49 : Int32) → (((52 : Int32) < (v_letters (Int32.toNatClampNeg b1)) → K (0 : Int32)) ∧ (¬ (52 : Int32) < (v_letters (Int32.toNatClampNeg b1)) → K (1 : Int32)))))) ∧ (b1 = (3 : Int32) → (((v_letters (Int32.toNatClampNeg b1)) < (49 : Int32) → K (0 : Int32)) ∧ (¬ (v_letters (Int32.toNatClampNeg b1)) < (49 : Int32) → (((56 : Int32) < (v_letters (Int32.toNatClampNeg b1)) → K (0 : Int32)) ∧ (¬ (56 : Int32) < (v_letters (Int32.toNatClampNeg b1)) → K (1 : Int32))))))))
set_option maxHeartbeats 4000000 in
set_option maxRecDepth 100000 in
theorem c_X6_fits {l : Launch} {E : g_E} (h0 : Nat) (h1 : Nat) (o0 : Value) (v_letters : Nat → Int32) (b1 : Int32) {K : Int32 → Prop} (h : P_X6_fits b1 v_letters K) : g_CI l E yX6_fits cX6_fits 4 .boolean (g_Rm 2 44) [.ref h0, .int b1] (W_X6_fits E h0 h1 o0 v_letters) (fun r (u : Unit) => K r) (fun (u : Unit) => (W_X6_fits E h0 h1 o0 v_letters)) := by
  refine g_entI RX6 (by decide) rfl (Nat.le_of_ble_eq_true rfl) ?_
  intro Γ X hE hl ret
  subst hE
  subst hl
  unfold P_X6_fits at h
  show g_G Γ (g_Rm 2 44) 4 0 [(0, .ref h0), (1, .int b1)] [] (W_X6_fits (g_env Γ) h0 h1 o0 v_letters)
  refine g_aload_n 0 X dX6_fits_0 0 rfl rfl ?_
  refine g_get 1 X fa_X6_9 dX6_fits_1 0 rfl rfl ?_
  refine g_iload_n 4 X dX6_fits_4 1 rfl rfl ?_
  have f1 := h.1; replace h := h.2
  refine g_iald 5 X dX6_fits_5 1 rfl rfl f1 ?_
  refine g_istore_n 6 X [(2, .int (v_letters (Int32.toNatClampNeg b1))), (0, .ref h0), (1, .int b1)] dX6_fits_6 rfl (Nat.le_of_ble_eq_true rfl) rfl ?_
  refine g_iload_n 7 X dX6_fits_7 2 rfl rfl ?_
  rcases sw_split b1 0 4 with c | ⟨k, hk, c⟩
  · refine g_tableOut 8 X 106 dX6_fits_8 (c.elim Or.inl (fun c => Or.inr (by omega))) (by decide) ?_
    replace h := h.1 c
    refine g_iload_n 106 X dX6_fits_106 2 rfl rfl ?_
    refine g_bipush 107 X (18 : Int32) dX6_fits_107 k_bp_18 ?_
    refine g_icmp_ge 109 X 158 dX6_fits_109 (by decide) (fun c => ?_) (fun c => ?_)
    · replace h := h.1 c
      refine g_iload_n 158 X dX6_fits_158 2 rfl rfl ?_
      refine g_bipush 159 X (18 : Int32) dX6_fits_159 k_bp_18 ?_
      refine g_isub 161 X dX6_fits_161 ?_
      refine g_istore_n 162 X [(3, .int (b1 - (18 : Int32))), (2, .int (v_letters (Int32.toNatClampNeg b1))), (0, .ref h0), (1, .int b1)] dX6_fits_162 rfl (Nat.le_of_ble_eq_true rfl) rfl ?_
      refine g_iload_n 163 X dX6_fits_163 0 rfl rfl ?_
      refine g_aload_n 164 X dX6_fits_164 2 rfl rfl ?_
      refine g_cVI 165 X (st := [.int (b1 - (18 : Int32))]) mv_X6_23 dX6_fits_165 h0 6 [] (c_X6_lineLength h0 h1 o0 v_letters h) [0, 1] (fun u : Unit => (W_X6_fits (g_env Γ) h0 h1 o0 v_letters)) rfl ⟨(Nat.le_of_ble_eq_true rfl), (Nat.le_of_ble_eq_true rfl)⟩ ⟨rfl, rfl⟩ (Nat.le_of_ble_eq_true rfl) rfl rfl rfl (by decide) (fun _ => rfl) (fun _ => rfl) (fun r2 u h => ?_)
      have f3 := h.1; replace h := h.2
      refine g_irem 168 X dX6_fits_168 f3 ?_
      refine g_if_ne 169 X 195 dX6_fits_169 (by decide) (fun c => ?_) (fun c => ?_)
      · replace h := h.1 c
        refine g_iload_n 195 X dX6_fits_195 1 rfl rfl ?_
        refine g_bipush 196 X (111 : Int32) dX6_fits_196 k_bp_111 ?_
        refine g_icmp_eq 198 X 207 dX6_fits_198 (by decide) (fun c => ?_) (fun c => ?_)
        · replace h := h.1 c
          refine g_iconst 207 X (1 : Int32) dX6_fits_207 k_ic_1 ?_
          refine g_goto 208 X 212 dX6_fits_208 (by decide) ?_
          exact ret 212 _ _ () dX6_fits_212 (by decide) h
        · replace h := h.2 c
          refine g_iload_n 201 X dX6_fits_201 1 rfl rfl ?_
          refine g_bipush 202 X (45 : Int32) dX6_fits_202 k_bp_45 ?_
          refine g_icmp_ne 204 X 211 dX6_fits_204 (by decide) (fun c => ?_) (fun c => ?_)
          · replace h := h.1 c
            refine g_iconst 211 X (0 : Int32) dX6_fits_211 k_ic_0 ?_
            exact ret 212 _ _ () dX6_fits_212 (by decide) h
          · replace h := h.2 c
            refine g_iconst 207 X (1 : Int32) dX6_fits_207 k_ic_1 ?_
            refine g_goto 208 X 212 dX6_fits_208 (by decide) ?_
            exact ret 212 _ _ () dX6_fits_212 (by decide) h
      · replace h := h.2 c
        refine g_iload_n 172 X dX6_fits_172 1 rfl rfl ?_
        refine g_bipush 173 X (108 : Int32) dX6_fits_173 k_bp_108 ?_
        refine g_icmp_ne 175 X 193 dX6_fits_175 (by decide) (fun c => ?_) (fun c => ?_)
        · replace h := h.1 c
          refine g_iconst 193 X (0 : Int32) dX6_fits_193 k_ic_0 ?_
          exact ret 194 _ _ () dX6_fits_194 (by decide) h
        · replace h := h.2 c
          refine g_iload_n 178 X dX6_fits_178 0 rfl rfl ?_
          refine g_aload_n 179 X dX6_fits_179 2 rfl rfl ?_
          refine g_cVI 180 X (st := [.int (b1 - (18 : Int32))]) mv_X6_23 dX6_fits_180 h0 6 [] (c_X6_lineLength h0 h1 o0 v_letters h) [0, 1] (fun u : Unit => (W_X6_fits (g_env Γ) h0 h1 o0 v_letters)) rfl ⟨(Nat.le_of_ble_eq_true rfl), (Nat.le_of_ble_eq_true rfl)⟩ ⟨rfl, rfl⟩ (Nat.le_of_ble_eq_true rfl) rfl rfl rfl (by decide) (fun _ => rfl) (fun _ => rfl) (fun r4 u h => ?_)
          have f5 := h.1; replace h := h.2
          refine g_idiv 183 X dX6_fits_183 f5 ?_
          refine g_bipush 184 X (8 : Int32) dX6_fits_184 k_bp_8 ?_
          refine g_icmp_ge 186 X 193 dX6_fits_186 (by decide) (fun c => ?_) (fun c => ?_)
          · replace h := h.1 c
            refine g_iconst 193 X (0 : Int32) dX6_fits_193 k_ic_0 ?_
            exact ret 194 _ _ () dX6_fits_194 (by decide) h
          · replace h := h.2 c
            refine g_iconst 189 X (1 : Int32) dX6_fits_189 k_ic_1 ?_
            refine g_goto 190 X 194 dX6_fits_190 (by decide) ?_
            exact ret 194 _ _ () dX6_fits_194 (by decide) h
    · replace h := h.2 c
      refine g_iload_n 112 X dX6_fits_112 0 rfl rfl ?_
      refine g_bipush 113 X (48 : Int32) dX6_fits_113 k_bp_48 ?_
      refine g_icmp_lt 115 X 128 dX6_fits_115 (by decide) (fun c => ?_) (fun c => ?_)
      · replace h := h.1 c
        refine g_iconst 128 X (0 : Int32) dX6_fits_128 k_ic_0 ?_
        refine g_istore_n 129 X [(3, .int (0 : Int32)), (2, .int (v_letters (Int32.toNatClampNeg b1))), (0, .ref h0), (1, .int b1)] dX6_fits_129 rfl (Nat.le_of_ble_eq_true rfl) rfl ?_
        refine g_iload_n 130 X dX6_fits_130 0 rfl rfl ?_
        refine g_if_eq 131 X 156 dX6_fits_131 (by decide) (fun c => ?_) (fun c => ?_)
        · replace h := h.1 c
          refine g_iconst 156 X (0 : Int32) dX6_fits_156 k_ic_0 ?_
          exact ret 157 _ _ () dX6_fits_157 (by decide) h
        · replace h := h.2 c
          refine g_iload_n 134 X dX6_fits_134 3 rfl rfl ?_
          refine g_bipush 135 X (13 : Int32) dX6_fits_135 k_bp_13 ?_
          refine g_icmp_le 137 X 152 dX6_fits_137 (by decide) (fun c => ?_) (fun c => ?_)
          · replace h := h.1 c
            refine g_iconst 152 X (1 : Int32) dX6_fits_152 k_ic_1 ?_
            refine g_goto 153 X 157 dX6_fits_153 (by decide) ?_
            exact ret 157 _ _ () dX6_fits_157 (by decide) h
          · replace h := h.2 c
            refine g_iload_n 140 X dX6_fits_140 1 rfl rfl ?_
            refine g_aload_n 141 X dX6_fits_141 2 rfl rfl ?_
            refine g_get 142 X fa_X6_9 dX6_fits_142 0 rfl rfl ?_
            refine g_iload_n 145 X dX6_fits_145 3 rfl rfl ?_
            refine g_iconst 146 X (1 : Int32) dX6_fits_146 k_ic_1 ?_
            refine g_isub 147 X dX6_fits_147 ?_
            have f6 := h.1; replace h := h.2
            refine g_iald 148 X dX6_fits_148 1 rfl rfl f6 ?_
            refine g_icmp_gt 149 X 156 dX6_fits_149 (by decide) (fun c => ?_) (fun c => ?_)
            · replace h := h.1 c
              refine g_iconst 156 X (0 : Int32) dX6_fits_156 k_ic_0 ?_
              exact ret 157 _ _ () dX6_fits_157 (by decide) h
            · replace h := h.2 c
              refine g_iconst 152 X (1 : Int32) dX6_fits_152 k_ic_1 ?_
              refine g_goto 153 X 157 dX6_fits_153 (by decide) ?_
              exact ret 157 _ _ () dX6_fits_157 (by decide) h
      · replace h := h.2 c
        refine g_iload_n 118 X dX6_fits_118 0 rfl rfl ?_
        refine g_bipush 119 X (57 : Int32) dX6_fits_119 k_bp_57 ?_
        refine g_icmp_gt 121 X 128 dX6_fits_121 (by decide) (fun c => ?_) (fun c => ?_)
        · replace h := h.1 c
          refine g_iconst 128 X (0 : Int32) dX6_fits_128 k_ic_0 ?_
          refine g_istore_n 129 X [(3, .int (0 : Int32)), (2, .int (v_letters (Int32.toNatClampNeg b1))), (0, .ref h0), (1, .int b1)] dX6_fits_129 rfl (Nat.le_of_ble_eq_true rfl) rfl ?_
          refine g_iload_n 130 X dX6_fits_130 0 rfl rfl ?_
          refine g_if_eq 131 X 156 dX6_fits_131 (by decide) (fun c => ?_) (fun c => ?_)
          · replace h := h.1 c
            refine g_iconst 156 X (0 : Int32) dX6_fits_156 k_ic_0 ?_
            exact ret 157 _ _ () dX6_fits_157 (by decide) h
          · replace h := h.2 c
            refine g_iload_n 134 X dX6_fits_134 3 rfl rfl ?_
            refine g_bipush 135 X (13 : Int32) dX6_fits_135 k_bp_13 ?_
            refine g_icmp_le 137 X 152 dX6_fits_137 (by decide) (fun c => ?_) (fun c => ?_)
            · replace h := h.1 c
              refine g_iconst 152 X (1 : Int32) dX6_fits_152 k_ic_1 ?_
              refine g_goto 153 X 157 dX6_fits_153 (by decide) ?_
              exact ret 157 _ _ () dX6_fits_157 (by decide) h
            · replace h := h.2 c
              refine g_iload_n 140 X dX6_fits_140 1 rfl rfl ?_
              refine g_aload_n 141 X dX6_fits_141 2 rfl rfl ?_
              refine g_get 142 X fa_X6_9 dX6_fits_142 0 rfl rfl ?_
              refine g_iload_n 145 X dX6_fits_145 3 rfl rfl ?_
              refine g_iconst 146 X (1 : Int32) dX6_fits_146 k_ic_1 ?_
              refine g_isub 147 X dX6_fits_147 ?_
              have f7 := h.1; replace h := h.2
              refine g_iald 148 X dX6_fits_148 1 rfl rfl f7 ?_
              refine g_icmp_gt 149 X 156 dX6_fits_149 (by decide) (fun c => ?_) (fun c => ?_)
              · replace h := h.1 c
                refine g_iconst 156 X (0 : Int32) dX6_fits_156 k_ic_0 ?_
                exact ret 157 _ _ () dX6_fits_157 (by decide) h
              · replace h := h.2 c
                refine g_iconst 152 X (1 : Int32) dX6_fits_152 k_ic_1 ?_
                refine g_goto 153 X 157 dX6_fits_153 (by decide) ?_
                exact ret 157 _ _ () dX6_fits_157 (by decide) h
        · replace h := h.2 c
          refine g_iconst 124 X (1 : Int32) dX6_fits_124 k_ic_1 ?_
          refine g_goto 125 X 129 dX6_fits_125 (by decide) ?_
          refine g_istore_n 129 X [(3, .int (1 : Int32)), (2, .int (v_letters (Int32.toNatClampNeg b1))), (0, .ref h0), (1, .int b1)] dX6_fits_129 rfl (Nat.le_of_ble_eq_true rfl) rfl ?_
          refine g_iload_n 130 X dX6_fits_130 0 rfl rfl ?_
          refine g_if_eq 131 X 156 dX6_fits_131 (by decide) (fun c => ?_) (fun c => ?_)
          · replace h := h.1 c
            refine g_iconst 156 X (0 : Int32) dX6_fits_156 k_ic_0 ?_
            exact ret 157 _ _ () dX6_fits_157 (by decide) h
          · replace h := h.2 c
            refine g_iload_n 134 X dX6_fits_134 3 rfl rfl ?_
            refine g_bipush 135 X (13 : Int32) dX6_fits_135 k_bp_13 ?_
            refine g_icmp_le 137 X 152 dX6_fits_137 (by decide) (fun c => ?_) (fun c => ?_)
            · replace h := h.1 c
              refine g_iconst 152 X (1 : Int32) dX6_fits_152 k_ic_1 ?_
              refine g_goto 153 X 157 dX6_fits_153 (by decide) ?_
              exact ret 157 _ _ () dX6_fits_157 (by decide) h
            · replace h := h.2 c
              refine g_iload_n 140 X dX6_fits_140 1 rfl rfl ?_
              refine g_aload_n 141 X dX6_fits_141 2 rfl rfl ?_
              refine g_get 142 X fa_X6_9 dX6_fits_142 0 rfl rfl ?_
              refine g_iload_n 145 X dX6_fits_145 3 rfl rfl ?_
              refine g_iconst 146 X (1 : Int32) dX6_fits_146 k_ic_1 ?_
              refine g_isub 147 X dX6_fits_147 ?_
              have f8 := h.1; replace h := h.2
              refine g_iald 148 X dX6_fits_148 1 rfl rfl f8 ?_
              refine g_icmp_gt 149 X 156 dX6_fits_149 (by decide) (fun c => ?_) (fun c => ?_)
              · replace h := h.1 c
                refine g_iconst 156 X (0 : Int32) dX6_fits_156 k_ic_0 ?_
                exact ret 157 _ _ () dX6_fits_157 (by decide) h
              · replace h := h.2 c
                refine g_iconst 152 X (1 : Int32) dX6_fits_152 k_ic_1 ?_
                refine g_goto 153 X 157 dX6_fits_153 (by decide) ?_
                exact ret 157 _ _ () dX6_fits_157 (by decide) h
  · match k, hk, c with
    | 0, _, c =>
      replace c : b1 = (0 : Int32) := c.trans (by decide)
      refine g_tableIn 8 X 32 40 dX6_fits_8 (by rw [c]; decide) (by rw [c]; decide) (by rw [c]; decide) (by decide) ?_
      replace h := h.2.1 c
      refine g_iload_n 40 X dX6_fits_40 0 rfl rfl ?_
      refine g_bipush 41 X (72 : Int32) dX6_fits_41 k_bp_72 ?_
      refine g_icmp_ne 43 X 50 dX6_fits_43 (by decide) (fun c => ?_) (fun c => ?_)
      · replace h := h.1 c
        refine g_iconst 50 X (0 : Int32) dX6_fits_50 k_ic_0 ?_
        exact ret 51 _ _ () dX6_fits_51 (by decide) h
      · replace h := h.2 c
        refine g_iconst 46 X (1 : Int32) dX6_fits_46 k_ic_1 ?_
        refine g_goto 47 X 51 dX6_fits_47 (by decide) ?_
        exact ret 51 _ _ () dX6_fits_51 (by decide) h
    | 1, _, c =>
      replace c : b1 = (1 : Int32) := c.trans (by decide)
      refine g_tableIn 8 X 44 52 dX6_fits_8 (by rw [c]; decide) (by rw [c]; decide) (by rw [c]; decide) (by decide) ?_
      replace h := h.2.2.1 c
      refine g_iload_n 52 X dX6_fits_52 0 rfl rfl ?_
      refine g_bipush 53 X (49 : Int32) dX6_fits_53 k_bp_49 ?_
      refine g_icmp_lt 55 X 68 dX6_fits_55 (by decide) (fun c => ?_) (fun c => ?_)
      · replace h := h.1 c
        refine g_iconst 68 X (0 : Int32) dX6_fits_68 k_ic_0 ?_
        exact ret 69 _ _ () dX6_fits_69 (by decide) h
      · replace h := h.2 c
        refine g_iload_n 58 X dX6_fits_58 0 rfl rfl ?_
        refine g_bipush 59 X (56 : Int32) dX6_fits_59 k_bp_56 ?_
        refine g_icmp_gt 61 X 68 dX6_fits_61 (by decide) (fun c => ?_) (fun c => ?_)
        · replace h := h.1 c
          refine g_iconst 68 X (0 : Int32) dX6_fits_68 k_ic_0 ?_
          exact ret 69 _ _ () dX6_fits_69 (by decide) h
        · replace h := h.2 c
          refine g_iconst 64 X (1 : Int32) dX6_fits_64 k_ic_1 ?_
          refine g_goto 65 X 69 dX6_fits_65 (by decide) ?_
          exact ret 69 _ _ () dX6_fits_69 (by decide) h
    | 2, _, c =>
      replace c : b1 = (2 : Int32) := c.trans (by decide)
      refine g_tableIn 8 X 62 70 dX6_fits_8 (by rw [c]; decide) (by rw [c]; decide) (by rw [c]; decide) (by decide) ?_
      replace h := h.2.2.2.1 c
      refine g_iload_n 70 X dX6_fits_70 0 rfl rfl ?_
      refine g_bipush 71 X (49 : Int32) dX6_fits_71 k_bp_49 ?_
      refine g_icmp_lt 73 X 86 dX6_fits_73 (by decide) (fun c => ?_) (fun c => ?_)
      · replace h := h.1 c
        refine g_iconst 86 X (0 : Int32) dX6_fits_86 k_ic_0 ?_
        exact ret 87 _ _ () dX6_fits_87 (by decide) h
      · replace h := h.2 c
        refine g_iload_n 76 X dX6_fits_76 0 rfl rfl ?_
        refine g_bipush 77 X (52 : Int32) dX6_fits_77 k_bp_52 ?_
        refine g_icmp_gt 79 X 86 dX6_fits_79 (by decide) (fun c => ?_) (fun c => ?_)
        · replace h := h.1 c
          refine g_iconst 86 X (0 : Int32) dX6_fits_86 k_ic_0 ?_
          exact ret 87 _ _ () dX6_fits_87 (by decide) h
        · replace h := h.2 c
          refine g_iconst 82 X (1 : Int32) dX6_fits_82 k_ic_1 ?_
          refine g_goto 83 X 87 dX6_fits_83 (by decide) ?_
          exact ret 87 _ _ () dX6_fits_87 (by decide) h
    | 3, _, c =>
      replace c : b1 = (3 : Int32) := c.trans (by decide)
      refine g_tableIn 8 X 80 88 dX6_fits_8 (by rw [c]; decide) (by rw [c]; decide) (by rw [c]; decide) (by decide) ?_
      replace h := h.2.2.2.2 c
      refine g_iload_n 88 X dX6_fits_88 0 rfl rfl ?_
      refine g_bipush 89 X (49 : Int32) dX6_fits_89 k_bp_49 ?_
      refine g_icmp_lt 91 X 104 dX6_fits_91 (by decide) (fun c => ?_) (fun c => ?_)
      · replace h := h.1 c
        refine g_iconst 104 X (0 : Int32) dX6_fits_104 k_ic_0 ?_
        exact ret 105 _ _ () dX6_fits_105 (by decide) h
      · replace h := h.2 c
        refine g_iload_n 94 X dX6_fits_94 0 rfl rfl ?_
        refine g_bipush 95 X (56 : Int32) dX6_fits_95 k_bp_56 ?_
        refine g_icmp_gt 97 X 104 dX6_fits_97 (by decide) (fun c => ?_) (fun c => ?_)
        · replace h := h.1 c
          refine g_iconst 104 X (0 : Int32) dX6_fits_104 k_ic_0 ?_
          exact ret 105 _ _ () dX6_fits_105 (by decide) h
        · replace h := h.2 c
          refine g_iconst 100 X (1 : Int32) dX6_fits_100 k_ic_1 ?_
          refine g_goto 101 X 105 dX6_fits_101 (by decide) ?_
          exact ret 105 _ _ () dX6_fits_105 (by decide) h
    | k + 4, hk, _ => exact absurd hk (by omega)

def W_X6_firstFault (E : g_E) (h0 : Nat) (h1 : Nat) (v_z_length : Int32) (v_letters : Nat → Int32) : va_W := [(h0, .inr (6, [.ref h1, .int v_z_length])), (h1, .inl (E.2.1, 99, .inl v_letters))]
def P_X6_firstFault_L2 (v_z_length : Int32) (v_letters : Nat → Int32) (C18 : Int32 → Prop) (C26 : Prop) : Nat → Int32 → Prop
  | 0, _ => False
  | n + 1, x1 => ((v_z_length ≤ x1 → C26) ∧ (¬ v_z_length ≤ x1 → (P_X6_fits x1 v_letters (fun r1 => ((¬ r1 = (0 : Int32) → P_X6_firstFault_L2 v_z_length v_letters C18 C26 n (x1 + (1 : Int32))) ∧ (r1 = (0 : Int32) → C18 x1))))))
def P_X6_firstFault (v_z_length : Int32) (v_letters : Nat → Int32) (K : Int32 → Prop) : Prop := (∃ ne : Nat, P_X6_firstFault_L2 v_z_length v_letters (fun x3 => K x3) (((v_z_length < (18 : Int32) → (((0 : Int32) = (0 : Int32) → K v_z_length) ∧ (¬ (0 : Int32) = (0 : Int32) → K (-9 : Int32)))) ∧ (¬ v_z_length < (18 : Int32) → (P_X6_lineLength v_letters (fun r4 => (¬ r4 = 0 ∧ ((¬ ((v_z_length - (18 : Int32)) - (v_z_length - (18 : Int32)) / r4 * r4) = (0 : Int32) → (((0 : Int32) = (0 : Int32) → K v_z_length) ∧ (¬ (0 : Int32) = (0 : Int32) → K (-9 : Int32)))) ∧ (((v_z_length - (18 : Int32)) - (v_z_length - (18 : Int32)) / r4 * r4) = (0 : Int32) → (((1 : Int32) = (0 : Int32) → K v_z_length) ∧ (¬ (1 : Int32) = (0 : Int32) → K (-9 : Int32))))))))))) ne (0 : Int32))
set_option maxHeartbeats 4000000 in
set_option maxRecDepth 100000 in
theorem l_X6_firstFault_2 {Γ : g_C} (X : g_X Γ (g_Rm 3 67) cX6_firstFault RX6 2) (h0 : Nat) (h1 : Nat) (v_z_length : Int32) (v_letters : Nat → Int32) {C18 : Int32 → Prop} {C26 : Prop} (hC18 : ∀ (x1 : Int32), C18 x1 → g_G Γ (g_Rm 3 67) 2 18 [(1, .int x1)] [] (W_X6_firstFault (g_env Γ) h0 h1 v_z_length v_letters)) (hC26 : C26 → g_G Γ (g_Rm 3 67) 2 26 [(0, .ref h0)] [] (W_X6_firstFault (g_env Γ) h0 h1 v_z_length v_letters)) : ∀ (n : Nat) (x1 : Int32), P_X6_firstFault_L2 v_z_length v_letters C18 C26 n x1 → g_G Γ (g_Rm 3 67) 2 2 [(0, .ref h0), (1, .int x1)] [] (W_X6_firstFault (g_env Γ) h0 h1 v_z_length v_letters) := by
  intro n
  induction n with
  | zero => intro x1 h; exact False.elim h
  | succ n ih =>
    intro x1 h
    unfold P_X6_firstFault_L2 at h
    refine g_iload_n 2 X dX6_firstFault_2 1 rfl rfl ?_
    refine g_aload_n 3 X dX6_firstFault_3 0 rfl rfl ?_
    refine g_get 4 X fa_X6_15 dX6_firstFault_4 0 rfl rfl ?_
    refine g_icmp_ge 7 X 26 dX6_firstFault_7 (by decide) (fun c => ?_) (fun c => ?_)
    · replace h := h.1 c
      refine g_sub [(0, .ref h0)] [0] rfl ?_
      exact hC26 h
    · replace h := h.2 c
      refine g_aload_n 10 X dX6_firstFault_10 0 rfl rfl ?_
      refine g_iload_n 11 X dX6_firstFault_11 1 rfl rfl ?_
      refine g_cVI 12 X (st := []) mv_X6_19 dX6_firstFault_12 h0 6 [.int x1] (c_X6_fits h0 h1 (.int v_z_length) v_letters x1 h) [0, 1] (fun u : Unit => (W_X6_firstFault (g_env Γ) h0 h1 v_z_length v_letters)) rfl ⟨(Nat.le_of_ble_eq_true rfl), (Nat.le_of_ble_eq_true rfl)⟩ ⟨rfl, rfl⟩ (Nat.le_of_ble_eq_true rfl) rfl rfl rfl (by decide) (fun _ => rfl) (fun _ => rfl) (fun r2 u h => ?_)
      refine g_if_ne 15 X 20 dX6_firstFault_15 (by decide) (fun c => ?_) (fun c => ?_)
      · replace h := h.1 c
        refine g_iinc 20 X (x1 + (1 : Int32)) [(1, .int (x1 + (1 : Int32))), (0, .ref h0)] dX6_firstFault_20 1 rfl (k_ii_1 _) (Nat.le_of_ble_eq_true rfl) rfl ?_
        refine g_goto 23 X 2 dX6_firstFault_23 (by decide) ?_
        refine g_sub [(0, .ref h0), (1, .int (x1 + (1 : Int32)))] [1, 0] rfl ?_
        exact ih (x1 + (1 : Int32)) h
      · replace h := h.2 c
        refine g_sub [(1, .int x1)] [1] rfl ?_
        exact hC18 x1 h
set_option maxHeartbeats 4000000 in
set_option maxRecDepth 100000 in
theorem c_X6_firstFault {l : Launch} {E : g_E} (h0 : Nat) (h1 : Nat) (v_z_length : Int32) (v_letters : Nat → Int32) {K : Int32 → Prop} (h : P_X6_firstFault v_z_length v_letters K) : g_CI l E yX6_firstFault cX6_firstFault 2 .int (g_Rm 3 67) [.ref h0] (W_X6_firstFault E h0 h1 v_z_length v_letters) (fun r (u : Unit) => K r) (fun (u : Unit) => (W_X6_firstFault E h0 h1 v_z_length v_letters)) := by
  refine g_entI RX6 (by decide) rfl (Nat.le_of_ble_eq_true rfl) ?_
  intro Γ X hE hl ret
  subst hE
  subst hl
  unfold P_X6_firstFault at h
  show g_G Γ (g_Rm 3 67) 2 0 [(0, .ref h0)] [] (W_X6_firstFault (g_env Γ) h0 h1 v_z_length v_letters)
  refine g_iconst 0 X (0 : Int32) dX6_firstFault_0 k_ic_0 ?_
  refine g_istore_n 1 X [(1, .int (0 : Int32)), (0, .ref h0)] dX6_firstFault_1 rfl (Nat.le_of_ble_eq_true rfl) rfl ?_
  obtain ⟨n6, h⟩ := h
  refine g_sub [(0, .ref h0), (1, .int (0 : Int32))] [1, 0] rfl ?_
  refine l_X6_firstFault_2 X h0 h1 v_z_length v_letters (fun x3 h => ?_) (fun h => ?_) n6 (0 : Int32) h
  · refine g_iload_n 18 X dX6_firstFault_18 0 rfl rfl ?_
    exact ret 19 _ _ () dX6_firstFault_19 (vp_nar_int _) h
  · refine g_aload_n 26 X dX6_firstFault_26 0 rfl rfl ?_
    refine g_get 27 X fa_X6_15 dX6_firstFault_27 0 rfl rfl ?_
    refine g_bipush 30 X (18 : Int32) dX6_firstFault_30 k_bp_18 ?_
    refine g_icmp_lt 32 X 54 dX6_firstFault_32 (by decide) (fun c => ?_) (fun c => ?_)
    · replace h := h.1 c
      refine g_iconst 54 X (0 : Int32) dX6_firstFault_54 k_ic_0 ?_
      refine g_istore_n 55 X [(1, .int (0 : Int32)), (0, .ref h0)] dX6_firstFault_55 rfl (Nat.le_of_ble_eq_true rfl) rfl ?_
      refine g_iload_n 56 X dX6_firstFault_56 0 rfl rfl ?_
      refine g_if_eq 57 X 65 dX6_firstFault_57 (by decide) (fun c => ?_) (fun c => ?_)
      · replace h := h.1 c
        refine g_aload_n 65 X dX6_firstFault_65 1 rfl rfl ?_
        refine g_get 66 X fa_X6_15 dX6_firstFault_66 0 rfl rfl ?_
        exact ret 69 _ _ () dX6_firstFault_69 (vp_nar_int _) h
      · replace h := h.2 c
        refine g_bipush 60 X (-9 : Int32) dX6_firstFault_60 k_bp_m9 ?_
        refine g_goto 62 X 69 dX6_firstFault_62 (by decide) ?_
        exact ret 69 _ _ () dX6_firstFault_69 (vp_nar_int _) h
    · replace h := h.2 c
      refine g_aload_n 35 X dX6_firstFault_35 0 rfl rfl ?_
      refine g_get 36 X fa_X6_15 dX6_firstFault_36 0 rfl rfl ?_
      refine g_bipush 39 X (18 : Int32) dX6_firstFault_39 k_bp_18 ?_
      refine g_isub 41 X dX6_firstFault_41 ?_
      refine g_aload_n 42 X dX6_firstFault_42 0 rfl rfl ?_
      refine g_cVI 43 X (st := [.int (v_z_length - (18 : Int32))]) mv_X6_23 dX6_firstFault_43 h0 6 [] (c_X6_lineLength h0 h1 (.int v_z_length) v_letters h) [0, 1] (fun u : Unit => (W_X6_firstFault (g_env Γ) h0 h1 v_z_length v_letters)) rfl ⟨(Nat.le_of_ble_eq_true rfl), (Nat.le_of_ble_eq_true rfl)⟩ ⟨rfl, rfl⟩ (Nat.le_of_ble_eq_true rfl) rfl rfl rfl (by decide) (fun _ => rfl) (fun _ => rfl) (fun r4 u h => ?_)
      have f5 := h.1; replace h := h.2
      refine g_irem 46 X dX6_firstFault_46 f5 ?_
      refine g_if_ne 47 X 54 dX6_firstFault_47 (by decide) (fun c => ?_) (fun c => ?_)
      · replace h := h.1 c
        refine g_iconst 54 X (0 : Int32) dX6_firstFault_54 k_ic_0 ?_
        refine g_istore_n 55 X [(1, .int (0 : Int32)), (0, .ref h0)] dX6_firstFault_55 rfl (Nat.le_of_ble_eq_true rfl) rfl ?_
        refine g_iload_n 56 X dX6_firstFault_56 0 rfl rfl ?_
        refine g_if_eq 57 X 65 dX6_firstFault_57 (by decide) (fun c => ?_) (fun c => ?_)
        · replace h := h.1 c
          refine g_aload_n 65 X dX6_firstFault_65 1 rfl rfl ?_
          refine g_get 66 X fa_X6_15 dX6_firstFault_66 0 rfl rfl ?_
          exact ret 69 _ _ () dX6_firstFault_69 (vp_nar_int _) h
        · replace h := h.2 c
          refine g_bipush 60 X (-9 : Int32) dX6_firstFault_60 k_bp_m9 ?_
          refine g_goto 62 X 69 dX6_firstFault_62 (by decide) ?_
          exact ret 69 _ _ () dX6_firstFault_69 (vp_nar_int _) h
      · replace h := h.2 c
        refine g_iconst 50 X (1 : Int32) dX6_firstFault_50 k_ic_1 ?_
        refine g_goto 51 X 55 dX6_firstFault_51 (by decide) ?_
        refine g_istore_n 55 X [(1, .int (1 : Int32)), (0, .ref h0)] dX6_firstFault_55 rfl (Nat.le_of_ble_eq_true rfl) rfl ?_
        refine g_iload_n 56 X dX6_firstFault_56 0 rfl rfl ?_
        refine g_if_eq 57 X 65 dX6_firstFault_57 (by decide) (fun c => ?_) (fun c => ?_)
        · replace h := h.1 c
          refine g_aload_n 65 X dX6_firstFault_65 1 rfl rfl ?_
          refine g_get 66 X fa_X6_15 dX6_firstFault_66 0 rfl rfl ?_
          exact ret 69 _ _ () dX6_firstFault_69 (vp_nar_int _) h
        · replace h := h.2 c
          refine g_bipush 60 X (-9 : Int32) dX6_firstFault_60 k_bp_m9 ?_
          refine g_goto 62 X 69 dX6_firstFault_62 (by decide) ?_
          exact ret 69 _ _ () dX6_firstFault_69 (vp_nar_int _) h

def W_X6_threeFiguresAt (E : g_E) (h0 : Nat) (h1 : Nat) (o0 : Value) (v_letters : Nat → Int32) : va_W := [(h0, .inr (6, [.ref h1, o0])), (h1, .inl (E.2.1, 99, .inl v_letters))]
def P_X6_threeFiguresAt (b1 : Int32) (v_letters : Nat → Int32) (K : Int32 → Prop) : Prop := (P_X6_figureAt b1 v_letters (fun r1 => (P_X6_figureAt (b1 + (1 : Int32)) v_letters (fun r2 => (P_X6_figureAt (b1 + (2 : Int32)) v_letters (fun r3 => K (((r1 * (100 : Int32)) + (r2 * (10 : Int32))) + r3)))))))
set_option maxHeartbeats 4000000 in
set_option maxRecDepth 100000 in
theorem c_X6_threeFiguresAt {l : Launch} {E : g_E} (h0 : Nat) (h1 : Nat) (o0 : Value) (v_letters : Nat → Int32) (b1 : Int32) {K : Int32 → Prop} (h : P_X6_threeFiguresAt b1 v_letters K) : g_CI l E yX6_threeFiguresAt cX6_threeFiguresAt 2 .int (g_Rm 1 21) [.ref h0, .int b1] (W_X6_threeFiguresAt E h0 h1 o0 v_letters) (fun r (u : Unit) => K r) (fun (u : Unit) => (W_X6_threeFiguresAt E h0 h1 o0 v_letters)) := by
  refine g_entI RX6 (by decide) rfl (Nat.le_of_ble_eq_true rfl) ?_
  intro Γ X hE hl ret
  subst hE
  subst hl
  unfold P_X6_threeFiguresAt at h
  show g_G Γ (g_Rm 1 21) 2 0 [(0, .ref h0), (1, .int b1)] [] (W_X6_threeFiguresAt (g_env Γ) h0 h1 o0 v_letters)
  refine g_aload_n 0 X dX6_threeFiguresAt_0 0 rfl rfl ?_
  refine g_iload_n 1 X dX6_threeFiguresAt_1 1 rfl rfl ?_
  refine g_cVI 2 X (st := []) mv_X6_27 dX6_threeFiguresAt_2 h0 6 [.int b1] (c_X6_figureAt h0 h1 o0 v_letters b1 h) [0, 1] (fun u : Unit => (W_X6_threeFiguresAt (g_env Γ) h0 h1 o0 v_letters)) rfl ⟨(Nat.le_of_ble_eq_true rfl), (Nat.le_of_ble_eq_true rfl)⟩ ⟨rfl, rfl⟩ (Nat.le_of_ble_eq_true rfl) rfl rfl rfl (by decide) (fun _ => rfl) (fun _ => rfl) (fun r1 u h => ?_)
  refine g_bipush 5 X (100 : Int32) dX6_threeFiguresAt_5 k_bp_100 ?_
  refine g_imul 7 X dX6_threeFiguresAt_7 ?_
  refine g_aload_n 8 X dX6_threeFiguresAt_8 0 rfl rfl ?_
  refine g_iload_n 9 X dX6_threeFiguresAt_9 1 rfl rfl ?_
  refine g_iconst 10 X (1 : Int32) dX6_threeFiguresAt_10 k_ic_1 ?_
  refine g_iadd 11 X dX6_threeFiguresAt_11 ?_
  refine g_cVI 12 X (st := [.int (r1 * (100 : Int32))]) mv_X6_27 dX6_threeFiguresAt_12 h0 6 [.int (b1 + (1 : Int32))] (c_X6_figureAt h0 h1 o0 v_letters (b1 + (1 : Int32)) h) [0, 1] (fun u : Unit => (W_X6_threeFiguresAt (g_env Γ) h0 h1 o0 v_letters)) rfl ⟨(Nat.le_of_ble_eq_true rfl), (Nat.le_of_ble_eq_true rfl)⟩ ⟨rfl, rfl⟩ (Nat.le_of_ble_eq_true rfl) rfl rfl rfl (by decide) (fun _ => rfl) (fun _ => rfl) (fun r2 u h => ?_)
  refine g_bipush 15 X (10 : Int32) dX6_threeFiguresAt_15 k_bp_10 ?_
  refine g_imul 17 X dX6_threeFiguresAt_17 ?_
  refine g_iadd 18 X dX6_threeFiguresAt_18 ?_
  refine g_aload_n 19 X dX6_threeFiguresAt_19 0 rfl rfl ?_
  refine g_iload_n 20 X dX6_threeFiguresAt_20 1 rfl rfl ?_
  refine g_iconst 21 X (2 : Int32) dX6_threeFiguresAt_21 k_ic_2 ?_
  refine g_iadd 22 X dX6_threeFiguresAt_22 ?_
  refine g_cVI 23 X (st := [.int ((r1 * (100 : Int32)) + (r2 * (10 : Int32)))]) mv_X6_27 dX6_threeFiguresAt_23 h0 6 [.int (b1 + (2 : Int32))] (c_X6_figureAt h0 h1 o0 v_letters (b1 + (2 : Int32)) h) [0, 1] (fun u : Unit => (W_X6_threeFiguresAt (g_env Γ) h0 h1 o0 v_letters)) rfl ⟨(Nat.le_of_ble_eq_true rfl), (Nat.le_of_ble_eq_true rfl)⟩ ⟨rfl, rfl⟩ (Nat.le_of_ble_eq_true rfl) rfl rfl rfl (by decide) (fun _ => rfl) (fun _ => rfl) (fun r3 u h => ?_)
  refine g_iadd 26 X dX6_threeFiguresAt_26 ?_
  exact ret 27 _ _ () dX6_threeFiguresAt_27 (vp_nar_int _) h

def W_X6_tellHead (E : g_E) (h0 : Nat) (h1 : Nat) (h2 : Nat) (o0 o1 : Value) (v_letters : Nat → Int32) (v_p1_dots : Int32) (v_p1_cool : Int32) (v_p1_power : Int32) (v_p1_low : Int32) (v_p1_high : Int32) (v_p1_ghost : Int32) : va_W := [(h0, .inr (6, [.ref h1, o0])), (h1, .inl (E.2.1, 99, .inl v_letters)), (h2, .inr (1, [o1, .int v_p1_dots, .int v_p1_cool, .int v_p1_power, .int v_p1_low, .int v_p1_high, .int v_p1_ghost]))]
def P_X6_tellHead (v_letters : Nat → Int32) (v_p1_dots : Int32) (v_p1_cool : Int32) (v_p1_power : Int32) (v_p1_low : Int32) (v_p1_high : Int32) (v_p1_ghost : Int32) (K : Int32 → Int32 → Int32 → Int32 → Int32 → Int32 → Prop) : Prop := (P_X6_figureAt (1 : Int32) v_letters (fun r1 => (P_X6_figureAt (2 : Int32) v_letters (fun r2 => (P_X6_figureAt (3 : Int32) v_letters (fun r3 => (P_X6_threeFiguresAt (4 : Int32) v_letters (fun r4 => (P_X6_threeFiguresAt (7 : Int32) v_letters (fun r5 => (P_X6_threeFiguresAt (10 : Int32) v_letters (fun r6 => K (if (if (1 : Int32) < r1 then r1 else (1 : Int32)) < (8 : Int32) then (if (1 : Int32) < r1 then r1 else (1 : Int32)) else (8 : Int32)) r2 r3 r4 r5 r6))))))))))))
set_option maxHeartbeats 4000000 in
set_option maxRecDepth 100000 in
theorem c_X6_tellHead {l : Launch} {E : g_E} (h0 : Nat) (h1 : Nat) (h2 : Nat) (o0 o1 : Value) (v_letters : Nat → Int32) (v_p1_dots : Int32) (v_p1_cool : Int32) (v_p1_power : Int32) (v_p1_low : Int32) (v_p1_high : Int32) (v_p1_ghost : Int32) {K : Int32 → Int32 → Int32 → Int32 → Int32 → Int32 → Prop} (h : P_X6_tellHead v_letters v_p1_dots v_p1_cool v_p1_power v_p1_low v_p1_high v_p1_ghost K) : g_CV l E yX6_tellHead cX6_tellHead 2 (g_Rm 2 42) [.ref h0, .ref h2] (W_X6_tellHead E h0 h1 h2 o0 o1 v_letters v_p1_dots v_p1_cool v_p1_power v_p1_low v_p1_high v_p1_ghost) (fun (u : Int32 × Int32 × Int32 × Int32 × Int32 × Int32) => K u.1 u.2.1 u.2.2.1 u.2.2.2.1 u.2.2.2.2.1 u.2.2.2.2.2) (fun (u : Int32 × Int32 × Int32 × Int32 × Int32 × Int32) => (W_X6_tellHead E h0 h1 h2 o0 o1 v_letters u.1 u.2.1 u.2.2.1 u.2.2.2.1 u.2.2.2.2.1 u.2.2.2.2.2)) := by
  refine g_entV RX6 (by decide) rfl (Nat.le_of_ble_eq_true rfl) ?_
  intro Γ X hE hl ret
  subst hE
  subst hl
  unfold P_X6_tellHead at h
  show g_G Γ (g_Rm 2 42) 2 0 [(0, .ref h0), (1, .ref h2)] [] (W_X6_tellHead (g_env Γ) h0 h1 h2 o0 o1 v_letters v_p1_dots v_p1_cool v_p1_power v_p1_low v_p1_high v_p1_ghost)
  refine g_aload_n 0 X dX6_tellHead_0 1 rfl rfl ?_
  refine g_bipush 1 X (8 : Int32) dX6_tellHead_1 k_bp_8 ?_
  refine g_iconst 3 X (1 : Int32) dX6_tellHead_3 k_ic_1 ?_
  refine g_aload_n 4 X dX6_tellHead_4 0 rfl rfl ?_
  refine g_iconst 5 X (1 : Int32) dX6_tellHead_5 k_ic_1 ?_
  refine g_cVI 6 X (st := [.int (1 : Int32), .int (8 : Int32), .ref h2]) mv_X6_27 dX6_tellHead_6 h0 6 [.int (1 : Int32)] (c_X6_figureAt h0 h1 o0 v_letters (1 : Int32) h) [0, 1] (fun u : Unit => (W_X6_tellHead (g_env Γ) h0 h1 h2 o0 o1 v_letters v_p1_dots v_p1_cool v_p1_power v_p1_low v_p1_high v_p1_ghost)) rfl ⟨(Nat.le_of_ble_eq_true rfl), (Nat.le_of_ble_eq_true rfl)⟩ ⟨rfl, rfl⟩ (Nat.le_of_ble_eq_true rfl) rfl rfl rfl (by decide) (fun _ => rfl) (fun _ => rfl) (fun r1 u h => ?_)
  refine g_mmax 9 X dX6_tellHead_9 ml_X6_31 (Nat.le_of_ble_eq_true rfl) (Nat.le_of_ble_eq_true rfl) ?_
  refine g_mmin 12 X dX6_tellHead_12 ml_X6_37 (Nat.le_of_ble_eq_true rfl) (Nat.le_of_ble_eq_true rfl) ?_
  refine g_put 15 X (W_X6_tellHead (g_env Γ) h0 h1 h2 o0 o1 v_letters (if (if (1 : Int32) < r1 then r1 else (1 : Int32)) < (8 : Int32) then (if (1 : Int32) < r1 then r1 else (1 : Int32)) else (8 : Int32)) v_p1_cool v_p1_power v_p1_low v_p1_high v_p1_ghost) fa_X6_40 pa_1_1 dX6_tellHead_15 2 rfl rfl rfl (Nat.le_of_ble_eq_true rfl) rfl ?_
  refine g_aload_n 18 X dX6_tellHead_18 1 rfl rfl ?_
  refine g_aload_n 19 X dX6_tellHead_19 0 rfl rfl ?_
  refine g_iconst 20 X (2 : Int32) dX6_tellHead_20 k_ic_2 ?_
  refine g_cVI 21 X (st := [.ref h2]) mv_X6_27 dX6_tellHead_21 h0 6 [.int (2 : Int32)] (c_X6_figureAt h0 h1 o0 v_letters (2 : Int32) h) [0, 1] (fun u : Unit => (W_X6_tellHead (g_env Γ) h0 h1 h2 o0 o1 v_letters (if (if (1 : Int32) < r1 then r1 else (1 : Int32)) < (8 : Int32) then (if (1 : Int32) < r1 then r1 else (1 : Int32)) else (8 : Int32)) v_p1_cool v_p1_power v_p1_low v_p1_high v_p1_ghost)) rfl ⟨(Nat.le_of_ble_eq_true rfl), (Nat.le_of_ble_eq_true rfl)⟩ ⟨rfl, rfl⟩ (Nat.le_of_ble_eq_true rfl) rfl rfl rfl (by decide) (fun _ => rfl) (fun _ => rfl) (fun r2 u h => ?_)
  refine g_put 24 X (W_X6_tellHead (g_env Γ) h0 h1 h2 o0 o1 v_letters (if (if (1 : Int32) < r1 then r1 else (1 : Int32)) < (8 : Int32) then (if (1 : Int32) < r1 then r1 else (1 : Int32)) else (8 : Int32)) r2 v_p1_power v_p1_low v_p1_high v_p1_ghost) fa_X6_45 pa_1_2 dX6_tellHead_24 2 rfl rfl rfl (Nat.le_of_ble_eq_true rfl) rfl ?_
  refine g_aload_n 27 X dX6_tellHead_27 1 rfl rfl ?_
  refine g_aload_n 28 X dX6_tellHead_28 0 rfl rfl ?_
  refine g_iconst 29 X (3 : Int32) dX6_tellHead_29 k_ic_3 ?_
  refine g_cVI 30 X (st := [.ref h2]) mv_X6_27 dX6_tellHead_30 h0 6 [.int (3 : Int32)] (c_X6_figureAt h0 h1 o0 v_letters (3 : Int32) h) [0, 1] (fun u : Unit => (W_X6_tellHead (g_env Γ) h0 h1 h2 o0 o1 v_letters (if (if (1 : Int32) < r1 then r1 else (1 : Int32)) < (8 : Int32) then (if (1 : Int32) < r1 then r1 else (1 : Int32)) else (8 : Int32)) r2 v_p1_power v_p1_low v_p1_high v_p1_ghost)) rfl ⟨(Nat.le_of_ble_eq_true rfl), (Nat.le_of_ble_eq_true rfl)⟩ ⟨rfl, rfl⟩ (Nat.le_of_ble_eq_true rfl) rfl rfl rfl (by decide) (fun _ => rfl) (fun _ => rfl) (fun r3 u h => ?_)
  refine g_put 33 X (W_X6_tellHead (g_env Γ) h0 h1 h2 o0 o1 v_letters (if (if (1 : Int32) < r1 then r1 else (1 : Int32)) < (8 : Int32) then (if (1 : Int32) < r1 then r1 else (1 : Int32)) else (8 : Int32)) r2 r3 v_p1_low v_p1_high v_p1_ghost) fa_X6_48 pa_1_3 dX6_tellHead_33 2 rfl rfl rfl (Nat.le_of_ble_eq_true rfl) rfl ?_
  refine g_aload_n 36 X dX6_tellHead_36 1 rfl rfl ?_
  refine g_aload_n 37 X dX6_tellHead_37 0 rfl rfl ?_
  refine g_iconst 38 X (4 : Int32) dX6_tellHead_38 k_ic_4 ?_
  refine g_cVI 39 X (st := [.ref h2]) mv_X6_51 dX6_tellHead_39 h0 6 [.int (4 : Int32)] (c_X6_threeFiguresAt h0 h1 o0 v_letters (4 : Int32) h) [0, 1] (fun u : Unit => (W_X6_tellHead (g_env Γ) h0 h1 h2 o0 o1 v_letters (if (if (1 : Int32) < r1 then r1 else (1 : Int32)) < (8 : Int32) then (if (1 : Int32) < r1 then r1 else (1 : Int32)) else (8 : Int32)) r2 r3 v_p1_low v_p1_high v_p1_ghost)) rfl ⟨(Nat.le_of_ble_eq_true rfl), (Nat.le_of_ble_eq_true rfl)⟩ ⟨rfl, rfl⟩ (Nat.le_of_ble_eq_true rfl) rfl rfl rfl (by decide) (fun _ => rfl) (fun _ => rfl) (fun r4 u h => ?_)
  refine g_put 42 X (W_X6_tellHead (g_env Γ) h0 h1 h2 o0 o1 v_letters (if (if (1 : Int32) < r1 then r1 else (1 : Int32)) < (8 : Int32) then (if (1 : Int32) < r1 then r1 else (1 : Int32)) else (8 : Int32)) r2 r3 r4 v_p1_high v_p1_ghost) fa_X6_54 pa_1_4 dX6_tellHead_42 2 rfl rfl rfl (Nat.le_of_ble_eq_true rfl) rfl ?_
  refine g_aload_n 45 X dX6_tellHead_45 1 rfl rfl ?_
  refine g_aload_n 46 X dX6_tellHead_46 0 rfl rfl ?_
  refine g_bipush 47 X (7 : Int32) dX6_tellHead_47 k_bp_7 ?_
  refine g_cVI 49 X (st := [.ref h2]) mv_X6_51 dX6_tellHead_49 h0 6 [.int (7 : Int32)] (c_X6_threeFiguresAt h0 h1 o0 v_letters (7 : Int32) h) [0, 1] (fun u : Unit => (W_X6_tellHead (g_env Γ) h0 h1 h2 o0 o1 v_letters (if (if (1 : Int32) < r1 then r1 else (1 : Int32)) < (8 : Int32) then (if (1 : Int32) < r1 then r1 else (1 : Int32)) else (8 : Int32)) r2 r3 r4 v_p1_high v_p1_ghost)) rfl ⟨(Nat.le_of_ble_eq_true rfl), (Nat.le_of_ble_eq_true rfl)⟩ ⟨rfl, rfl⟩ (Nat.le_of_ble_eq_true rfl) rfl rfl rfl (by decide) (fun _ => rfl) (fun _ => rfl) (fun r5 u h => ?_)
  refine g_put 52 X (W_X6_tellHead (g_env Γ) h0 h1 h2 o0 o1 v_letters (if (if (1 : Int32) < r1 then r1 else (1 : Int32)) < (8 : Int32) then (if (1 : Int32) < r1 then r1 else (1 : Int32)) else (8 : Int32)) r2 r3 r4 r5 v_p1_ghost) fa_X6_57 pa_1_5 dX6_tellHead_52 2 rfl rfl rfl (Nat.le_of_ble_eq_true rfl) rfl ?_
  refine g_aload_n 55 X dX6_tellHead_55 1 rfl rfl ?_
  refine g_aload_n 56 X dX6_tellHead_56 0 rfl rfl ?_
  refine g_bipush 57 X (10 : Int32) dX6_tellHead_57 k_bp_10 ?_
  refine g_cVI 59 X (st := [.ref h2]) mv_X6_51 dX6_tellHead_59 h0 6 [.int (10 : Int32)] (c_X6_threeFiguresAt h0 h1 o0 v_letters (10 : Int32) h) [0, 1] (fun u : Unit => (W_X6_tellHead (g_env Γ) h0 h1 h2 o0 o1 v_letters (if (if (1 : Int32) < r1 then r1 else (1 : Int32)) < (8 : Int32) then (if (1 : Int32) < r1 then r1 else (1 : Int32)) else (8 : Int32)) r2 r3 r4 r5 v_p1_ghost)) rfl ⟨(Nat.le_of_ble_eq_true rfl), (Nat.le_of_ble_eq_true rfl)⟩ ⟨rfl, rfl⟩ (Nat.le_of_ble_eq_true rfl) rfl rfl rfl (by decide) (fun _ => rfl) (fun _ => rfl) (fun r6 u h => ?_)
  refine g_put 62 X (W_X6_tellHead (g_env Γ) h0 h1 h2 o0 o1 v_letters (if (if (1 : Int32) < r1 then r1 else (1 : Int32)) < (8 : Int32) then (if (1 : Int32) < r1 then r1 else (1 : Int32)) else (8 : Int32)) r2 r3 r4 r5 r6) fa_X6_60 pa_1_6 dX6_tellHead_62 2 rfl rfl rfl (Nat.le_of_ble_eq_true rfl) rfl ?_
  exact ret 65 _ ((if (if (1 : Int32) < r1 then r1 else (1 : Int32)) < (8 : Int32) then (if (1 : Int32) < r1 then r1 else (1 : Int32)) else (8 : Int32)), r2, r3, r4, r5, r6) dX6_tellHead_65 h

def W_X6_tellTable (E : g_E) (h0 : Nat) (h1 : Nat) (h2 : Nat) (h3 : Nat) (o0 o1 o2 o3 o4 o5 o6 o7 o8 o9 o10 o11 : Value) (v_letters : Nat → Int32) (v_p1_figures : Nat → Int32) : va_W := [(h0, .inr (6, [.ref h1, o0])), (h1, .inl (E.2.1, 99, .inl v_letters)), (h2, .inr (5, [o1, .ref h3, o2, o3, o4, o5, o6, o7, o8, o9, o10, o11])), (h3, .inl (E.2.1, 5, .inl v_p1_figures))]
def P_X6_tellTable_L2 (v_letters : Nat → Int32) (C27 : (Nat → Int32) → Prop) : Nat → Int32 → (Nat → Int32) → Prop
  | 0, _, _ => False
  | n + 1, x2, v_p1_figures => (((5 : Int32) ≤ x2 → C27 v_p1_figures) ∧ (¬ (5 : Int32) ≤ x2 → (P_X6_figureAt ((13 : Int32) + x2) v_letters (fun r1 => (vp_in x2 5 ∧ P_X6_tellTable_L2 v_letters C27 n (x2 + (1 : Int32)) (upd v_p1_figures (Int32.toNatClampNeg x2) r1))))))
def P_X6_tellTable (v_letters : Nat → Int32) (v_p1_figures : Nat → Int32) (K : (Nat → Int32) → Prop) : Prop := (∃ ne : Nat, P_X6_tellTable_L2 v_letters (fun v_p1_figures_5 => K v_p1_figures_5) ne (0 : Int32) v_p1_figures)
set_option maxHeartbeats 4000000 in
set_option maxRecDepth 100000 in
theorem l_X6_tellTable_2 {Γ : g_C} (X : g_X Γ (g_Rm 1 21) cX6_tellTable RX6 3) (h0 : Nat) (h1 : Nat) (h2 : Nat) (h3 : Nat) (o0 o1 o2 o3 o4 o5 o6 o7 o8 o9 o10 o11 : Value) (v_letters : Nat → Int32) {C27 : (Nat → Int32) → Prop} (hC27 : ∀ (v_p1_figures : Nat → Int32), C27 v_p1_figures → g_G Γ (g_Rm 1 21) 3 27 [] [] (W_X6_tellTable (g_env Γ) h0 h1 h2 h3 o0 o1 o2 o3 o4 o5 o6 o7 o8 o9 o10 o11 v_letters v_p1_figures)) : ∀ (n : Nat) (x2 : Int32) (v_p1_figures : Nat → Int32), P_X6_tellTable_L2 v_letters C27 n x2 v_p1_figures → g_G Γ (g_Rm 1 21) 3 2 [(0, .ref h0), (1, .ref h2), (2, .int x2)] [] (W_X6_tellTable (g_env Γ) h0 h1 h2 h3 o0 o1 o2 o3 o4 o5 o6 o7 o8 o9 o10 o11 v_letters v_p1_figures) := by
  intro n
  induction n with
  | zero => intro x2 v_p1_figures h; exact False.elim h
  | succ n ih =>
    intro x2 v_p1_figures h
    unfold P_X6_tellTable_L2 at h
    refine g_iload_n 2 X dX6_tellTable_2 2 rfl rfl ?_
    refine g_iconst 3 X (5 : Int32) dX6_tellTable_3 k_ic_5 ?_
    refine g_icmp_ge 4 X 27 dX6_tellTable_4 (by decide) (fun c => ?_) (fun c => ?_)
    · replace h := h.1 c
      refine g_sub [] [] rfl ?_
      exact hC27 v_p1_figures h
    · replace h := h.2 c
      refine g_aload_n 7 X dX6_tellTable_7 1 rfl rfl ?_
      refine g_get 8 X fa_X6_63 dX6_tellTable_8 2 rfl rfl ?_
      refine g_iload_n 11 X dX6_tellTable_11 2 rfl rfl ?_
      refine g_aload_n 12 X dX6_tellTable_12 0 rfl rfl ?_
      refine g_bipush 13 X (13 : Int32) dX6_tellTable_13 k_bp_13 ?_
      refine g_iload_n 15 X dX6_tellTable_15 2 rfl rfl ?_
      refine g_iadd 16 X dX6_tellTable_16 ?_
      refine g_cVI 17 X (st := [.int x2, .ref h3]) mv_X6_27 dX6_tellTable_17 h0 6 [.int ((13 : Int32) + x2)] (c_X6_figureAt h0 h1 o0 v_letters ((13 : Int32) + x2) h) [0, 1] (fun u : Unit => (W_X6_tellTable (g_env Γ) h0 h1 h2 h3 o0 o1 o2 o3 o4 o5 o6 o7 o8 o9 o10 o11 v_letters v_p1_figures)) rfl ⟨(Nat.le_of_ble_eq_true rfl), (Nat.le_of_ble_eq_true rfl)⟩ ⟨rfl, rfl⟩ (Nat.le_of_ble_eq_true rfl) rfl rfl rfl (by decide) (fun _ => rfl) (fun _ => rfl) (fun r3 u h => ?_)
      have f4 := h.1; replace h := h.2
      refine g_iast 20 X (W_X6_tellTable (g_env Γ) h0 h1 h2 h3 o0 o1 o2 o3 o4 o5 o6 o7 o8 o9 o10 o11 v_letters (upd v_p1_figures (Int32.toNatClampNeg x2) r3)) dX6_tellTable_20 3 rfl rfl f4 rfl ?_
      refine g_iinc 21 X (x2 + (1 : Int32)) [(2, .int (x2 + (1 : Int32))), (0, .ref h0), (1, .ref h2)] dX6_tellTable_21 2 rfl (k_ii_1 _) (Nat.le_of_ble_eq_true rfl) rfl ?_
      refine g_goto 24 X 2 dX6_tellTable_24 (by decide) ?_
      refine g_sub [(0, .ref h0), (1, .ref h2), (2, .int (x2 + (1 : Int32)))] [1, 2, 0] rfl ?_
      exact ih (x2 + (1 : Int32)) (upd v_p1_figures (Int32.toNatClampNeg x2) r3) h
set_option maxHeartbeats 4000000 in
set_option maxRecDepth 100000 in
theorem c_X6_tellTable {l : Launch} {E : g_E} (h0 : Nat) (h1 : Nat) (h2 : Nat) (h3 : Nat) (o0 o1 o2 o3 o4 o5 o6 o7 o8 o9 o10 o11 : Value) (v_letters : Nat → Int32) (v_p1_figures : Nat → Int32) {K : (Nat → Int32) → Prop} (h : P_X6_tellTable v_letters v_p1_figures K) : g_CV l E yX6_tellTable cX6_tellTable 3 (g_Rm 1 21) [.ref h0, .ref h2] (W_X6_tellTable E h0 h1 h2 h3 o0 o1 o2 o3 o4 o5 o6 o7 o8 o9 o10 o11 v_letters v_p1_figures) (fun (u : (Nat → Int32)) => K u) (fun (u : (Nat → Int32)) => (W_X6_tellTable E h0 h1 h2 h3 o0 o1 o2 o3 o4 o5 o6 o7 o8 o9 o10 o11 v_letters u)) := by
  refine g_entV RX6 (by decide) rfl (Nat.le_of_ble_eq_true rfl) ?_
  intro Γ X hE hl ret
  subst hE
  subst hl
  unfold P_X6_tellTable at h
  show g_G Γ (g_Rm 1 21) 3 0 [(0, .ref h0), (1, .ref h2)] [] (W_X6_tellTable (g_env Γ) h0 h1 h2 h3 o0 o1 o2 o3 o4 o5 o6 o7 o8 o9 o10 o11 v_letters v_p1_figures)
  refine g_iconst 0 X (0 : Int32) dX6_tellTable_0 k_ic_0 ?_
  refine g_istore_n 1 X [(2, .int (0 : Int32)), (0, .ref h0), (1, .ref h2)] dX6_tellTable_1 rfl (Nat.le_of_ble_eq_true rfl) rfl ?_
  obtain ⟨n6, h⟩ := h
  refine g_sub [(0, .ref h0), (1, .ref h2), (2, .int (0 : Int32))] [1, 2, 0] rfl ?_
  refine l_X6_tellTable_2 X h0 h1 h2 h3 o0 o1 o2 o3 o4 o5 o6 o7 o8 o9 o10 o11 v_letters (fun v_p1_figures_5 h => ?_) n6 (0 : Int32) v_p1_figures h
  · exact ret 27 _ (v_p1_figures_5) dX6_tellTable_27 h

def W_X6_tellQueue (E : g_E) (h0 : Nat) (h1 : Nat) (h2 : Nat) (h3 : Nat) (o0 o1 o2 o3 o4 o5 o6 o7 o8 o9 : Value) (v_z_length : Int32) (v_letters : Nat → Int32) (v_p1_queued : Int32) (v_p1_queue : Nat → Int32) : va_W := [(h0, .inr (6, [.ref h1, .int v_z_length])), (h1, .inl (E.2.1, 99, .inl v_letters)), (h2, .inr (5, [o0, o1, .ref h3, .int v_p1_queued, o2, o3, o4, o5, o6, o7, o8, o9])), (h3, .inl (E.2.1, 8, .inl v_p1_queue))]
def P_X6_tellQueue_L24 (v_letters : Nat → Int32) (x2 : Int32) (x3 : Int32) (C63 : Int32 → Prop) : Nat → Int32 → Int32 → Prop
  | 0, _, _ => False
  | n + 1, x4, x5 => ((x2 ≤ (x5 + (1 : Int32)) → C63 x4) ∧ (¬ x2 ≤ (x5 + (1 : Int32)) → (vp_in ((x3 + (1 : Int32)) + x5) 99 ∧ ((¬ (v_letters (Int32.toNatClampNeg ((x3 + (1 : Int32)) + x5))) = (111 : Int32) → P_X6_tellQueue_L24 v_letters x2 x3 C63 n x4 (x5 + (1 : Int32))) ∧ ((v_letters (Int32.toNatClampNeg ((x3 + (1 : Int32)) + x5))) = (111 : Int32) → P_X6_tellQueue_L24 v_letters x2 x3 C63 n (x4 ||| ((1 : Int32) <<< (x5 &&& (31 : Int32)))) (x5 + (1 : Int32)))))))
def P_X6_tellQueue_L8 (v_z_length : Int32) (v_letters : Nat → Int32) (x2 : Int32) (C76 : Int32 → (Nat → Int32) → Prop) : Nat → Int32 → Int32 → (Nat → Int32) → Prop
  | 0, _, _, _ => False
  | n + 1, x3, v_p1_queued, v_p1_queue => ((v_z_length < (x3 + x2) → C76 v_p1_queued v_p1_queue) ∧ (¬ v_z_length < (x3 + x2) → (∃ ne : Nat, P_X6_tellQueue_L24 v_letters x2 x3 (fun x4 => (P_X5_append x4 v_p1_queued v_p1_queue (fun v_p1_queued_5 v_p1_queue_6 => P_X6_tellQueue_L8 v_z_length v_letters x2 C76 n (x3 + x2) v_p1_queued_5 v_p1_queue_6))) ne (0 : Int32) (0 : Int32))))
def P_X6_tellQueue (v_z_length : Int32) (v_letters : Nat → Int32) (v_p1_queued : Int32) (v_p1_queue : Nat → Int32) (K : Int32 → (Nat → Int32) → Prop) : Prop := (P_X6_lineLength v_letters (fun r1 => (∃ ne : Nat, P_X6_tellQueue_L8 v_z_length v_letters r1 (fun v_p1_queued_12 v_p1_queue_13 => K v_p1_queued_12 v_p1_queue_13) ne (18 : Int32) v_p1_queued v_p1_queue)))
set_option maxHeartbeats 4000000 in
set_option maxRecDepth 100000 in
theorem l_X6_tellQueue_24 {Γ : g_C} (X : g_X Γ (g_Rm 2 44) cX6_tellQueue RX6 6) (h0 : Nat) (h1 : Nat) (h2 : Nat) (h3 : Nat) (o0 o1 o2 o3 o4 o5 o6 o7 o8 o9 : Value) (v_z_length : Int32) (v_letters : Nat → Int32) (v_p1_queued : Int32) (v_p1_queue : Nat → Int32) (x2 : Int32) (x3 : Int32) {C63 : Int32 → Prop} (hC63 : ∀ (x4 : Int32), C63 x4 → g_G Γ (g_Rm 2 44) 6 63 [(0, .ref h0), (1, .ref h2), (2, .int x2), (3, .int x3), (4, .int x4)] [] (W_X6_tellQueue (g_env Γ) h0 h1 h2 h3 o0 o1 o2 o3 o4 o5 o6 o7 o8 o9 v_z_length v_letters v_p1_queued v_p1_queue)) : ∀ (n : Nat) (x4 : Int32) (x5 : Int32), P_X6_tellQueue_L24 v_letters x2 x3 C63 n x4 x5 → g_G Γ (g_Rm 2 44) 6 24 [(0, .ref h0), (1, .ref h2), (2, .int x2), (3, .int x3), (4, .int x4), (5, .int x5)] [] (W_X6_tellQueue (g_env Γ) h0 h1 h2 h3 o0 o1 o2 o3 o4 o5 o6 o7 o8 o9 v_z_length v_letters v_p1_queued v_p1_queue) := by
  intro n
  induction n with
  | zero => intro x4 x5 h; exact False.elim h
  | succ n ih =>
    intro x4 x5 h
    unfold P_X6_tellQueue_L24 at h
    refine g_iload 24 X dX6_tellQueue_24 5 rfl ?_
    refine g_iconst 26 X (1 : Int32) dX6_tellQueue_26 k_ic_1 ?_
    refine g_iadd 27 X dX6_tellQueue_27 ?_
    refine g_iload_n 28 X dX6_tellQueue_28 2 rfl rfl ?_
    refine g_icmp_ge 29 X 63 dX6_tellQueue_29 (by decide) (fun c => ?_) (fun c => ?_)
    · replace h := h.1 c
      refine g_sub [(0, .ref h0), (1, .ref h2), (2, .int x2), (3, .int x3), (4, .int x4)] [0, 1, 2, 3, 4] rfl ?_
      exact hC63 x4 h
    · replace h := h.2 c
      refine g_aload_n 32 X dX6_tellQueue_32 0 rfl rfl ?_
      refine g_get 33 X fa_X6_9 dX6_tellQueue_33 0 rfl rfl ?_
      refine g_iload_n 36 X dX6_tellQueue_36 3 rfl rfl ?_
      refine g_iconst 37 X (1 : Int32) dX6_tellQueue_37 k_ic_1 ?_
      refine g_iadd 38 X dX6_tellQueue_38 ?_
      refine g_iload 39 X dX6_tellQueue_39 5 rfl ?_
      refine g_iadd 41 X dX6_tellQueue_41 ?_
      have f3 := h.1; replace h := h.2
      refine g_iald 42 X dX6_tellQueue_42 1 rfl rfl f3 ?_
      refine g_bipush 43 X (111 : Int32) dX6_tellQueue_43 k_bp_111 ?_
      refine g_icmp_ne 45 X 57 dX6_tellQueue_45 (by decide) (fun c => ?_) (fun c => ?_)
      · replace h := h.1 c
        refine g_iinc 57 X (x5 + (1 : Int32)) [(5, .int (x5 + (1 : Int32))), (0, .ref h0), (1, .ref h2), (2, .int x2), (3, .int x3), (4, .int x4)] dX6_tellQueue_57 5 rfl (k_ii_1 _) (Nat.le_of_ble_eq_true rfl) rfl ?_
        refine g_goto 60 X 24 dX6_tellQueue_60 (by decide) ?_
        refine g_sub [(0, .ref h0), (1, .ref h2), (2, .int x2), (3, .int x3), (4, .int x4), (5, .int (x5 + (1 : Int32)))] [1, 2, 3, 4, 5, 0] rfl ?_
        exact ih x4 (x5 + (1 : Int32)) h
      · replace h := h.2 c
        refine g_iload 48 X dX6_tellQueue_48 4 rfl ?_
        refine g_iconst 50 X (1 : Int32) dX6_tellQueue_50 k_ic_1 ?_
        refine g_iload 51 X dX6_tellQueue_51 5 rfl ?_
        refine g_ishl 53 X dX6_tellQueue_53 ?_
        refine g_ior 54 X dX6_tellQueue_54 ?_
        refine g_istore 55 X [(4, .int (x4 ||| ((1 : Int32) <<< (x5 &&& (31 : Int32))))), (0, .ref h0), (1, .ref h2), (2, .int x2), (3, .int x3), (5, .int x5)] dX6_tellQueue_55 (Nat.le_of_ble_eq_true rfl) rfl ?_
        refine g_iinc 57 X (x5 + (1 : Int32)) [(5, .int (x5 + (1 : Int32))), (4, .int (x4 ||| ((1 : Int32) <<< (x5 &&& (31 : Int32))))), (0, .ref h0), (1, .ref h2), (2, .int x2), (3, .int x3)] dX6_tellQueue_57 5 rfl (k_ii_1 _) (Nat.le_of_ble_eq_true rfl) rfl ?_
        refine g_goto 60 X 24 dX6_tellQueue_60 (by decide) ?_
        refine g_sub [(0, .ref h0), (1, .ref h2), (2, .int x2), (3, .int x3), (4, .int (x4 ||| ((1 : Int32) <<< (x5 &&& (31 : Int32))))), (5, .int (x5 + (1 : Int32)))] [2, 3, 4, 5, 1, 0] rfl ?_
        exact ih (x4 ||| ((1 : Int32) <<< (x5 &&& (31 : Int32)))) (x5 + (1 : Int32)) h
set_option maxHeartbeats 4000000 in
set_option maxRecDepth 100000 in
theorem l_X6_tellQueue_8 {Γ : g_C} (X : g_X Γ (g_Rm 2 44) cX6_tellQueue RX6 6) (h0 : Nat) (h1 : Nat) (h2 : Nat) (h3 : Nat) (o0 o1 o2 o3 o4 o5 o6 o7 o8 o9 : Value) (v_z_length : Int32) (v_letters : Nat → Int32) (x2 : Int32) {C76 : Int32 → (Nat → Int32) → Prop} (hC76 : ∀ (v_p1_queued : Int32) (v_p1_queue : Nat → Int32), C76 v_p1_queued v_p1_queue → g_G Γ (g_Rm 2 44) 6 76 [] [] (W_X6_tellQueue (g_env Γ) h0 h1 h2 h3 o0 o1 o2 o3 o4 o5 o6 o7 o8 o9 v_z_length v_letters v_p1_queued v_p1_queue)) : ∀ (n : Nat) (x3 : Int32) (v_p1_queued : Int32) (v_p1_queue : Nat → Int32), P_X6_tellQueue_L8 v_z_length v_letters x2 C76 n x3 v_p1_queued v_p1_queue → g_G Γ (g_Rm 2 44) 6 8 [(0, .ref h0), (1, .ref h2), (2, .int x2), (3, .int x3)] [] (W_X6_tellQueue (g_env Γ) h0 h1 h2 h3 o0 o1 o2 o3 o4 o5 o6 o7 o8 o9 v_z_length v_letters v_p1_queued v_p1_queue) := by
  intro n
  induction n with
  | zero => intro x3 v_p1_queued v_p1_queue h; exact False.elim h
  | succ n ih =>
    intro x3 v_p1_queued v_p1_queue h
    unfold P_X6_tellQueue_L8 at h
    refine g_iload_n 8 X dX6_tellQueue_8 3 rfl rfl ?_
    refine g_iload_n 9 X dX6_tellQueue_9 2 rfl rfl ?_
    refine g_iadd 10 X dX6_tellQueue_10 ?_
    refine g_aload_n 11 X dX6_tellQueue_11 0 rfl rfl ?_
    refine g_get 12 X fa_X6_15 dX6_tellQueue_12 0 rfl rfl ?_
    refine g_icmp_gt 15 X 76 dX6_tellQueue_15 (by decide) (fun c => ?_) (fun c => ?_)
    · replace h := h.1 c
      refine g_sub [] [] rfl ?_
      exact hC76 v_p1_queued v_p1_queue h
    · replace h := h.2 c
      refine g_iconst 18 X (0 : Int32) dX6_tellQueue_18 k_ic_0 ?_
      refine g_istore 19 X [(4, .int (0 : Int32)), (0, .ref h0), (1, .ref h2), (2, .int x2), (3, .int x3)] dX6_tellQueue_19 (Nat.le_of_ble_eq_true rfl) rfl ?_
      refine g_iconst 21 X (0 : Int32) dX6_tellQueue_21 k_ic_0 ?_
      refine g_istore 22 X [(5, .int (0 : Int32)), (4, .int (0 : Int32)), (0, .ref h0), (1, .ref h2), (2, .int x2), (3, .int x3)] dX6_tellQueue_22 (Nat.le_of_ble_eq_true rfl) rfl ?_
      obtain ⟨n11, h⟩ := h
      refine g_sub [(0, .ref h0), (1, .ref h2), (2, .int x2), (3, .int x3), (4, .int (0 : Int32)), (5, .int (0 : Int32))] [2, 3, 4, 5, 1, 0] rfl ?_
      refine l_X6_tellQueue_24 X h0 h1 h2 h3 o0 o1 o2 o3 o4 o5 o6 o7 o8 o9 v_z_length v_letters v_p1_queued v_p1_queue x2 x3 (fun x8 h => ?_) n11 (0 : Int32) (0 : Int32) h
      · refine g_aload_n 63 X dX6_tellQueue_63 1 rfl rfl ?_
        refine g_iload 64 X dX6_tellQueue_64 4 rfl ?_
        refine g_cVV 66 X (st := []) mv_X6_68 dX6_tellQueue_66 h2 5 [.int x8] (c_X5_append h2 h3 o0 o1 o2 o3 o4 o5 o6 o7 o8 o9 v_p1_queued v_p1_queue x8 h) [2, 3] (fun u : Int32 × (Nat → Int32) => (W_X6_tellQueue (g_env Γ) h0 h1 h2 h3 o0 o1 o2 o3 o4 o5 o6 o7 o8 o9 v_z_length v_letters u.1 u.2)) rfl ⟨(Nat.le_of_ble_eq_true rfl), (Nat.le_of_ble_eq_true rfl)⟩ ⟨rfl, rfl⟩ (Nat.le_of_ble_eq_true rfl) rfl rfl rfl (by decide) (fun _ => rfl) (fun _ => rfl) (fun u h => ?_)
        obtain ⟨v_p1_queued_9, v_p1_queue_10⟩ := u
        dsimp only at h ⊢
        refine g_iload_n 69 X dX6_tellQueue_69 3 rfl rfl ?_
        refine g_iload_n 70 X dX6_tellQueue_70 2 rfl rfl ?_
        refine g_iadd 71 X dX6_tellQueue_71 ?_
        refine g_istore_n 72 X [(3, .int (x3 + x2)), (0, .ref h0), (1, .ref h2), (2, .int x2), (4, .int x8)] dX6_tellQueue_72 rfl (Nat.le_of_ble_eq_true rfl) rfl ?_
        refine g_goto 73 X 8 dX6_tellQueue_73 (by decide) ?_
        refine g_sub [(0, .ref h0), (1, .ref h2), (2, .int x2), (3, .int (x3 + x2))] [1, 2, 3, 0] rfl ?_
        exact ih (x3 + x2) v_p1_queued_9 v_p1_queue_10 h
set_option maxHeartbeats 4000000 in
set_option maxRecDepth 100000 in
theorem c_X6_tellQueue {l : Launch} {E : g_E} (h0 : Nat) (h1 : Nat) (h2 : Nat) (h3 : Nat) (o0 o1 o2 o3 o4 o5 o6 o7 o8 o9 : Value) (v_z_length : Int32) (v_letters : Nat → Int32) (v_p1_queued : Int32) (v_p1_queue : Nat → Int32) {K : Int32 → (Nat → Int32) → Prop} (h : P_X6_tellQueue v_z_length v_letters v_p1_queued v_p1_queue K) : g_CV l E yX6_tellQueue cX6_tellQueue 6 (g_Rm 2 44) [.ref h0, .ref h2] (W_X6_tellQueue E h0 h1 h2 h3 o0 o1 o2 o3 o4 o5 o6 o7 o8 o9 v_z_length v_letters v_p1_queued v_p1_queue) (fun (u : Int32 × (Nat → Int32)) => K u.1 u.2) (fun (u : Int32 × (Nat → Int32)) => (W_X6_tellQueue E h0 h1 h2 h3 o0 o1 o2 o3 o4 o5 o6 o7 o8 o9 v_z_length v_letters u.1 u.2)) := by
  refine g_entV RX6 (by decide) rfl (Nat.le_of_ble_eq_true rfl) ?_
  intro Γ X hE hl ret
  subst hE
  subst hl
  unfold P_X6_tellQueue at h
  show g_G Γ (g_Rm 2 44) 6 0 [(0, .ref h0), (1, .ref h2)] [] (W_X6_tellQueue (g_env Γ) h0 h1 h2 h3 o0 o1 o2 o3 o4 o5 o6 o7 o8 o9 v_z_length v_letters v_p1_queued v_p1_queue)
  refine g_aload_n 0 X dX6_tellQueue_0 0 rfl rfl ?_
  refine g_cVI 1 X (st := []) mv_X6_23 dX6_tellQueue_1 h0 6 [] (c_X6_lineLength h0 h1 (.int v_z_length) v_letters h) [0, 1] (fun u : Unit => (W_X6_tellQueue (g_env Γ) h0 h1 h2 h3 o0 o1 o2 o3 o4 o5 o6 o7 o8 o9 v_z_length v_letters v_p1_queued v_p1_queue)) rfl ⟨(Nat.le_of_ble_eq_true rfl), (Nat.le_of_ble_eq_true rfl)⟩ ⟨rfl, rfl⟩ (Nat.le_of_ble_eq_true rfl) rfl rfl rfl (by decide) (fun _ => rfl) (fun _ => rfl) (fun r1 u h => ?_)
  refine g_istore_n 4 X [(2, .int r1), (0, .ref h0), (1, .ref h2)] dX6_tellQueue_4 rfl (Nat.le_of_ble_eq_true rfl) rfl ?_
  refine g_bipush 5 X (18 : Int32) dX6_tellQueue_5 k_bp_18 ?_
  refine g_istore_n 7 X [(3, .int (18 : Int32)), (2, .int r1), (0, .ref h0), (1, .ref h2)] dX6_tellQueue_7 rfl (Nat.le_of_ble_eq_true rfl) rfl ?_
  obtain ⟨n14, h⟩ := h
  refine g_sub [(0, .ref h0), (1, .ref h2), (2, .int r1), (3, .int (18 : Int32))] [2, 3, 1, 0] rfl ?_
  refine l_X6_tellQueue_8 X h0 h1 h2 h3 o0 o1 o2 o3 o4 o5 o6 o7 o8 o9 v_z_length v_letters r1 (fun v_p1_queued_12 v_p1_queue_13 h => ?_) n14 (18 : Int32) v_p1_queued v_p1_queue h
  · exact ret 76 _ (v_p1_queued_12, v_p1_queue_13) dX6_tellQueue_76 h
