def W_X7_bit (E : g_E) : va_W := []
def P_X7_bit (b0 : Int32) (b1 : Int32) (K : Int32 → Prop) : Prop := K ((b0 >>> (b1 &&& (31 : Int32))) &&& (1 : Int32))
set_option maxHeartbeats 4000000 in
set_option maxRecDepth 100000 in
theorem c_X7_bit {l : Launch} {E : g_E} (b0 : Int32) (b1 : Int32) {K : Int32 → Prop} (h : P_X7_bit b0 b1 K) : g_CI l E yX7_bit cX7_bit 2 .int (g_Rm 0 0) [.int b0, .int b1] (W_X7_bit E) (fun r (u : Unit) => K r) (fun (u : Unit) => (W_X7_bit E)) := by
  refine g_entI RX7 (by decide) rfl (Nat.le_of_ble_eq_true rfl) ?_
  intro Γ X hE hl ret
  subst hE
  subst hl
  unfold P_X7_bit at h
  show g_G Γ (g_Rm 0 0) 2 0 [(0, .int b0), (1, .int b1)] [] (W_X7_bit (g_env Γ))
  refine g_iload_n 0 X dX7_bit_0 0 rfl rfl ?_
  refine g_iload_n 1 X dX7_bit_1 1 rfl rfl ?_
  refine g_ishr 2 X dX7_bit_2 ?_
  refine g_iconst 3 X (1 : Int32) dX7_bit_3 k_ic_1 ?_
  refine g_iand 4 X dX7_bit_4 ?_
  exact ret 5 _ _ () dX7_bit_5 (vp_nar_int _) h

def W_X1_hasDot (E : g_E) (h0 : Nat) (o0 o1 o2 o3 o4 o5 : Value) (v_z_dots : Int32) : va_W := [(h0, .inr (1, [o0, .int v_z_dots, o1, o2, o3, o4, o5]))]
def P_X1_hasDot (b1 : Int32) (v_z_dots : Int32) (K : Int32 → Prop) : Prop := ((b1 < (0 : Int32) → K (0 : Int32)) ∧ (¬ b1 < (0 : Int32) → ((v_z_dots ≤ b1 → K (0 : Int32)) ∧ (¬ v_z_dots ≤ b1 → K (1 : Int32)))))
set_option maxHeartbeats 4000000 in
set_option maxRecDepth 100000 in
theorem c_X1_hasDot {l : Launch} {E : g_E} (h0 : Nat) (o0 o1 o2 o3 o4 o5 : Value) (v_z_dots : Int32) (b1 : Int32) {K : Int32 → Prop} (h : P_X1_hasDot b1 v_z_dots K) : g_CI l E yX1_hasDot cX1_hasDot 2 .boolean (g_Rm 0 0) [.ref h0, .int b1] (W_X1_hasDot E h0 o0 o1 o2 o3 o4 o5 v_z_dots) (fun r (u : Unit) => K r) (fun (u : Unit) => (W_X1_hasDot E h0 o0 o1 o2 o3 o4 o5 v_z_dots)) := by
  refine g_entI RX1 (by decide) rfl (Nat.le_of_ble_eq_true rfl) ?_
  intro Γ X hE hl ret
  subst hE
  subst hl
  unfold P_X1_hasDot at h
  show g_G Γ (g_Rm 0 0) 2 0 [(0, .ref h0), (1, .int b1)] [] (W_X1_hasDot (g_env Γ) h0 o0 o1 o2 o3 o4 o5 v_z_dots)
  refine g_iload_n 0 X dX1_hasDot_0 1 rfl rfl ?_
  refine g_if_lt 1 X 16 dX1_hasDot_1 (by decide) (fun c => ?_) (fun c => ?_)
  · replace h := h.1 c
    refine g_iconst 16 X (0 : Int32) dX1_hasDot_16 k_ic_0 ?_
    exact ret 17 _ _ () dX1_hasDot_17 (by decide) h
  · replace h := h.2 c
    refine g_iload_n 4 X dX1_hasDot_4 1 rfl rfl ?_
    refine g_aload_n 5 X dX1_hasDot_5 0 rfl rfl ?_
    refine g_get 6 X fa_X1_15 dX1_hasDot_6 0 rfl rfl ?_
    refine g_icmp_ge 9 X 16 dX1_hasDot_9 (by decide) (fun c => ?_) (fun c => ?_)
    · replace h := h.1 c
      refine g_iconst 16 X (0 : Int32) dX1_hasDot_16 k_ic_0 ?_
      exact ret 17 _ _ () dX1_hasDot_17 (by decide) h
    · replace h := h.2 c
      refine g_iconst 12 X (1 : Int32) dX1_hasDot_12 k_ic_1 ?_
      refine g_goto 13 X 17 dX1_hasDot_13 (by decide) ?_
      exact ret 17 _ _ () dX1_hasDot_17 (by decide) h

def W_X1_coolDown (E : g_E) (h0 : Nat) (h1 : Nat) (h2 : Nat) (o0 o1 o2 o3 o4 o5 o6 o7 o8 o9 o10 o11 o12 o13 o14 o15 : Value) (v_z_dots : Int32) (v_z_cool : Int32) (v_p1_heats : Nat → Int32) : va_W := [(h0, .inr (1, [o0, .int v_z_dots, .int v_z_cool, o1, o2, o3, o4])), (h1, .inr (5, [.ref h2, o5, o6, o7, o8, o9, o10, o11, o12, o13, o14, o15])), (h2, .inl (E.2.1, 8, .inl v_p1_heats))]
def P_X1_coolDown_L2 (v_z_dots : Int32) (v_z_cool : Int32) (C36 : (Nat → Int32) → Prop) : Nat → Int32 → (Nat → Int32) → Prop
  | 0, _, _ => False
  | n + 1, x2, v_p1_heats => ((v_z_dots ≤ x2 → C36 v_p1_heats) ∧ (¬ v_z_dots ≤ x2 → (vp_in x2 8 ∧ P_X1_coolDown_L2 v_z_dots v_z_cool C36 n (x2 + (1 : Int32)) (upd v_p1_heats (Int32.toNatClampNeg x2) ((v_p1_heats (Int32.toNatClampNeg x2)) - ((v_p1_heats (Int32.toNatClampNeg x2)) >>> (v_z_cool &&& (31 : Int32))))))))
def P_X1_coolDown (v_z_dots : Int32) (v_z_cool : Int32) (v_p1_heats : Nat → Int32) (K : (Nat → Int32) → Prop) : Prop := (∃ n : Nat, P_X1_coolDown_L2 v_z_dots v_z_cool (fun v_p1_heats_3 => K v_p1_heats_3) n (0 : Int32) v_p1_heats)
set_option maxHeartbeats 4000000 in
set_option maxRecDepth 100000 in
theorem l_X1_coolDown_2 {Γ : g_C} (X : g_X Γ (g_Rm 0 0) cX1_coolDown RX1 3) (h0 : Nat) (h1 : Nat) (h2 : Nat) (o0 o1 o2 o3 o4 o5 o6 o7 o8 o9 o10 o11 o12 o13 o14 o15 : Value) (v_z_dots : Int32) (v_z_cool : Int32) {C36 : (Nat → Int32) → Prop} (hC36 : ∀ (v_p1_heats : Nat → Int32), C36 v_p1_heats → g_G Γ (g_Rm 0 0) 3 36 [] [] (W_X1_coolDown (g_env Γ) h0 h1 h2 o0 o1 o2 o3 o4 o5 o6 o7 o8 o9 o10 o11 o12 o13 o14 o15 v_z_dots v_z_cool v_p1_heats)) : ∀ (n : Nat) (x2 : Int32) (v_p1_heats : Nat → Int32), P_X1_coolDown_L2 v_z_dots v_z_cool C36 n x2 v_p1_heats → g_G Γ (g_Rm 0 0) 3 2 [(0, .ref h0), (1, .ref h1), (2, .int x2)] [] (W_X1_coolDown (g_env Γ) h0 h1 h2 o0 o1 o2 o3 o4 o5 o6 o7 o8 o9 o10 o11 o12 o13 o14 o15 v_z_dots v_z_cool v_p1_heats) := by
  intro n
  induction n with
  | zero => intro x2 v_p1_heats h; exact False.elim h
  | succ n ih =>
    intro x2 v_p1_heats h
    unfold P_X1_coolDown_L2 at h
    refine g_iload_n 2 X dX1_coolDown_2 2 rfl rfl ?_
    refine g_aload_n 3 X dX1_coolDown_3 0 rfl rfl ?_
    refine g_get 4 X fa_X1_15 dX1_coolDown_4 0 rfl rfl ?_
    refine g_icmp_ge 7 X 36 dX1_coolDown_7 (by decide) (fun c => ?_) (fun c => ?_)
    · replace h := h.1 c
      refine g_sub [] [] rfl ?_
      exact hC36 v_p1_heats h
    · replace h := h.2 c
      refine g_aload_n 10 X dX1_coolDown_10 1 rfl rfl ?_
      refine g_get 11 X fa_X1_29 dX1_coolDown_11 1 rfl rfl ?_
      refine g_iload_n 14 X dX1_coolDown_14 2 rfl rfl ?_
      refine g_dup2 15 X dX1_coolDown_15 rfl rfl ?_
      have f2 := h.1; replace h := h.2
      refine g_iald 16 X dX1_coolDown_16 2 rfl rfl f2 ?_
      refine g_aload_n 17 X dX1_coolDown_17 1 rfl rfl ?_
      refine g_get 18 X fa_X1_29 dX1_coolDown_18 1 rfl rfl ?_
      refine g_iload_n 21 X dX1_coolDown_21 2 rfl rfl ?_
      refine g_iald 22 X dX1_coolDown_22 2 rfl rfl f2 ?_
      refine g_aload_n 23 X dX1_coolDown_23 0 rfl rfl ?_
      refine g_get 24 X fa_X1_19 dX1_coolDown_24 0 rfl rfl ?_
      refine g_ishr 27 X dX1_coolDown_27 ?_
      refine g_isub 28 X dX1_coolDown_28 ?_
      refine g_iast 29 X (W_X1_coolDown (g_env Γ) h0 h1 h2 o0 o1 o2 o3 o4 o5 o6 o7 o8 o9 o10 o11 o12 o13 o14 o15 v_z_dots v_z_cool (upd v_p1_heats (Int32.toNatClampNeg x2) ((v_p1_heats (Int32.toNatClampNeg x2)) - ((v_p1_heats (Int32.toNatClampNeg x2)) >>> (v_z_cool &&& (31 : Int32)))))) dX1_coolDown_29 2 rfl rfl f2 rfl ?_
      refine g_iinc 30 X (x2 + (1 : Int32)) [(2, .int (x2 + (1 : Int32))), (0, .ref h0), (1, .ref h1)] dX1_coolDown_30 2 rfl (k_ii_1 _) (Nat.le_of_ble_eq_true rfl) rfl ?_
      refine g_goto 33 X 2 dX1_coolDown_33 (by decide) ?_
      refine g_sub [(0, .ref h0), (1, .ref h1), (2, .int (x2 + (1 : Int32)))] [1, 2, 0] rfl ?_
      exact ih (x2 + (1 : Int32)) (upd v_p1_heats (Int32.toNatClampNeg x2) ((v_p1_heats (Int32.toNatClampNeg x2)) - ((v_p1_heats (Int32.toNatClampNeg x2)) >>> (v_z_cool &&& (31 : Int32))))) h
set_option maxHeartbeats 4000000 in
set_option maxRecDepth 100000 in
theorem c_X1_coolDown {l : Launch} {E : g_E} (h0 : Nat) (h1 : Nat) (h2 : Nat) (o0 o1 o2 o3 o4 o5 o6 o7 o8 o9 o10 o11 o12 o13 o14 o15 : Value) (v_z_dots : Int32) (v_z_cool : Int32) (v_p1_heats : Nat → Int32) {K : (Nat → Int32) → Prop} (h : P_X1_coolDown v_z_dots v_z_cool v_p1_heats K) : g_CV l E yX1_coolDown cX1_coolDown 3 (g_Rm 0 0) [.ref h0, .ref h1] (W_X1_coolDown E h0 h1 h2 o0 o1 o2 o3 o4 o5 o6 o7 o8 o9 o10 o11 o12 o13 o14 o15 v_z_dots v_z_cool v_p1_heats) (fun (u : (Nat → Int32)) => K u) (fun (u : (Nat → Int32)) => (W_X1_coolDown E h0 h1 h2 o0 o1 o2 o3 o4 o5 o6 o7 o8 o9 o10 o11 o12 o13 o14 o15 v_z_dots v_z_cool u)) := by
  refine g_entV RX1 (by decide) rfl (Nat.le_of_ble_eq_true rfl) ?_
  intro Γ X hE hl ret
  subst hE
  subst hl
  unfold P_X1_coolDown at h
  show g_G Γ (g_Rm 0 0) 3 0 [(0, .ref h0), (1, .ref h1)] [] (W_X1_coolDown (g_env Γ) h0 h1 h2 o0 o1 o2 o3 o4 o5 o6 o7 o8 o9 o10 o11 o12 o13 o14 o15 v_z_dots v_z_cool v_p1_heats)
  refine g_iconst 0 X (0 : Int32) dX1_coolDown_0 k_ic_0 ?_
  refine g_istore_n 1 X [(2, .int (0 : Int32)), (0, .ref h0), (1, .ref h1)] dX1_coolDown_1 rfl (Nat.le_of_ble_eq_true rfl) rfl ?_
  obtain ⟨n4, h⟩ := h
  refine g_sub [(0, .ref h0), (1, .ref h1), (2, .int (0 : Int32))] [1, 2, 0] rfl ?_
  refine l_X1_coolDown_2 X h0 h1 h2 o0 o1 o2 o3 o4 o5 o6 o7 o8 o9 o10 o11 o12 o13 o14 o15 v_z_dots v_z_cool (fun v_p1_heats_3 h => ?_) n4 (0 : Int32) v_p1_heats h
  · exact ret 36 _ (v_p1_heats_3) dX1_coolDown_36 h

def W_X1_rest (E : g_E) (h0 : Nat) (h1 : Nat) (h2 : Nat) (o0 o1 o2 o3 o4 o5 o6 o7 o8 o9 o10 o11 o12 o13 o14 o15 : Value) (v_z_dots : Int32) (v_z_cool : Int32) (v_p1_heats : Nat → Int32) : va_W := [(h0, .inr (1, [o0, .int v_z_dots, .int v_z_cool, o1, o2, o3, o4])), (h1, .inr (5, [.ref h2, o5, o6, o7, o8, o9, o10, o11, o12, o13, o14, o15])), (h2, .inl (E.2.1, 8, .inl v_p1_heats))]
def P_X1_rest_L2 (v_z_dots : Int32) (v_z_cool : Int32) (x2 : Int32) (C18 : (Nat → Int32) → Prop) : Nat → Int32 → (Nat → Int32) → Prop
  | 0, _, _ => False
  | n + 1, x3, v_p1_heats => ((x2 ≤ x3 → C18 v_p1_heats) ∧ (¬ x2 ≤ x3 → (P_X1_coolDown v_z_dots v_z_cool v_p1_heats (fun v_p1_heats_1 => P_X1_rest_L2 v_z_dots v_z_cool x2 C18 n (x3 + (1 : Int32)) v_p1_heats_1))))
def P_X1_rest (b2 : Int32) (v_z_dots : Int32) (v_z_cool : Int32) (v_p1_heats : Nat → Int32) (K : (Nat → Int32) → Prop) : Prop := (∃ n : Nat, P_X1_rest_L2 v_z_dots v_z_cool b2 (fun v_p1_heats_3 => K v_p1_heats_3) n (0 : Int32) v_p1_heats)
set_option maxHeartbeats 4000000 in
set_option maxRecDepth 100000 in
theorem l_X1_rest_2 {Γ : g_C} (X : g_X Γ (g_Rm 1 22) cX1_rest RX1 4) (h0 : Nat) (h1 : Nat) (h2 : Nat) (o0 o1 o2 o3 o4 o5 o6 o7 o8 o9 o10 o11 o12 o13 o14 o15 : Value) (v_z_dots : Int32) (v_z_cool : Int32) (x2 : Int32) {C18 : (Nat → Int32) → Prop} (hC18 : ∀ (v_p1_heats : Nat → Int32), C18 v_p1_heats → g_G Γ (g_Rm 1 22) 4 18 [] [] (W_X1_rest (g_env Γ) h0 h1 h2 o0 o1 o2 o3 o4 o5 o6 o7 o8 o9 o10 o11 o12 o13 o14 o15 v_z_dots v_z_cool v_p1_heats)) : ∀ (n : Nat) (x3 : Int32) (v_p1_heats : Nat → Int32), P_X1_rest_L2 v_z_dots v_z_cool x2 C18 n x3 v_p1_heats → g_G Γ (g_Rm 1 22) 4 2 [(0, .ref h0), (1, .ref h1), (2, .int x2), (3, .int x3)] [] (W_X1_rest (g_env Γ) h0 h1 h2 o0 o1 o2 o3 o4 o5 o6 o7 o8 o9 o10 o11 o12 o13 o14 o15 v_z_dots v_z_cool v_p1_heats) := by
  intro n
  induction n with
  | zero => intro x3 v_p1_heats h; exact False.elim h
  | succ n ih =>
    intro x3 v_p1_heats h
    unfold P_X1_rest_L2 at h
    refine g_iload_n 2 X dX1_rest_2 3 rfl rfl ?_
    refine g_iload_n 3 X dX1_rest_3 2 rfl rfl ?_
    refine g_icmp_ge 4 X 18 dX1_rest_4 (by decide) (fun c => ?_) (fun c => ?_)
    · replace h := h.1 c
      refine g_sub [] [] rfl ?_
      exact hC18 v_p1_heats h
    · replace h := h.2 c
      refine g_aload_n 7 X dX1_rest_7 0 rfl rfl ?_
      refine g_aload_n 8 X dX1_rest_8 1 rfl rfl ?_
      refine g_cVV 9 X (st := []) mv_X1_34 dX1_rest_9 h0 1 [.ref h1] (c_X1_coolDown h0 h1 h2 o0 o1 o2 o3 o4 o5 o6 o7 o8 o9 o10 o11 o12 o13 o14 o15 v_z_dots v_z_cool v_p1_heats h) [0, 1, 2] (fun u : (Nat → Int32) => (W_X1_rest (g_env Γ) h0 h1 h2 o0 o1 o2 o3 o4 o5 o6 o7 o8 o9 o10 o11 o12 o13 o14 o15 v_z_dots v_z_cool u)) rfl ⟨(Nat.le_of_ble_eq_true rfl), (Nat.le_of_ble_eq_true rfl)⟩ ⟨rfl, rfl⟩ (Nat.le_of_ble_eq_true rfl) rfl rfl rfl (by decide) (fun _ => rfl) (fun _ => rfl) (fun u h => ?_)
      obtain ⟨v_p1_heats_2, rfl⟩ : ∃ z, z = u := ⟨_, rfl⟩
      refine g_iinc 12 X (x3 + (1 : Int32)) [(3, .int (x3 + (1 : Int32))), (0, .ref h0), (1, .ref h1), (2, .int x2)] dX1_rest_12 3 rfl (k_ii_1 _) (Nat.le_of_ble_eq_true rfl) rfl ?_
      refine g_goto 15 X 2 dX1_rest_15 (by decide) ?_
      refine g_sub [(0, .ref h0), (1, .ref h1), (2, .int x2), (3, .int (x3 + (1 : Int32)))] [1, 2, 3, 0] rfl ?_
      exact ih (x3 + (1 : Int32)) v_p1_heats_2 h
set_option maxHeartbeats 4000000 in
set_option maxRecDepth 100000 in
theorem c_X1_rest {l : Launch} {E : g_E} (h0 : Nat) (h1 : Nat) (h2 : Nat) (o0 o1 o2 o3 o4 o5 o6 o7 o8 o9 o10 o11 o12 o13 o14 o15 : Value) (v_z_dots : Int32) (v_z_cool : Int32) (v_p1_heats : Nat → Int32) (b2 : Int32) {K : (Nat → Int32) → Prop} (h : P_X1_rest b2 v_z_dots v_z_cool v_p1_heats K) : g_CV l E yX1_rest cX1_rest 4 (g_Rm 1 22) [.ref h0, .ref h1, .int b2] (W_X1_rest E h0 h1 h2 o0 o1 o2 o3 o4 o5 o6 o7 o8 o9 o10 o11 o12 o13 o14 o15 v_z_dots v_z_cool v_p1_heats) (fun (u : (Nat → Int32)) => K u) (fun (u : (Nat → Int32)) => (W_X1_rest E h0 h1 h2 o0 o1 o2 o3 o4 o5 o6 o7 o8 o9 o10 o11 o12 o13 o14 o15 v_z_dots v_z_cool u)) := by
  refine g_entV RX1 (by decide) rfl (Nat.le_of_ble_eq_true rfl) ?_
  intro Γ X hE hl ret
  subst hE
  subst hl
  unfold P_X1_rest at h
  show g_G Γ (g_Rm 1 22) 4 0 [(0, .ref h0), (1, .ref h1), (2, .int b2)] [] (W_X1_rest (g_env Γ) h0 h1 h2 o0 o1 o2 o3 o4 o5 o6 o7 o8 o9 o10 o11 o12 o13 o14 o15 v_z_dots v_z_cool v_p1_heats)
  refine g_iconst 0 X (0 : Int32) dX1_rest_0 k_ic_0 ?_
  refine g_istore_n 1 X [(3, .int (0 : Int32)), (0, .ref h0), (1, .ref h1), (2, .int b2)] dX1_rest_1 rfl (Nat.le_of_ble_eq_true rfl) rfl ?_
  obtain ⟨n4, h⟩ := h
  refine g_sub [(0, .ref h0), (1, .ref h1), (2, .int b2), (3, .int (0 : Int32))] [1, 2, 3, 0] rfl ?_
  refine l_X1_rest_2 X h0 h1 h2 o0 o1 o2 o3 o4 o5 o6 o7 o8 o9 o10 o11 o12 o13 o14 o15 v_z_dots v_z_cool b2 (fun v_p1_heats_3 h => ?_) n4 (0 : Int32) v_p1_heats h
  · exact ret 18 _ (v_p1_heats_3) dX1_rest_18 h
