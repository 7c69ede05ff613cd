def W_X8_copy (E : g_E) (h0 : Nat) (h1 : Nat) (v_z : Nat → Int32) (v_p1 : Nat → Int32) : va_W := [(h0, .inl (E.2.1, 30, .inl v_z)), (h1, .inl (E.2.1, 30, .inl v_p1))]
def P_X8_copy_L2 (v_z : Nat → Int32) (C20 : (Nat → Int32) → Prop) : Nat → Int32 → (Nat → Int32) → Prop
  | 0, _, _ => False
  | n + 1, x2, v_p1 => (((30 : Int32) ≤ x2 → C20 v_p1) ∧ (¬ (30 : Int32) ≤ x2 → (vp_in x2 30 ∧ P_X8_copy_L2 v_z C20 n (x2 + (1 : Int32)) (upd v_p1 (Int32.toNatClampNeg x2) (v_z (Int32.toNatClampNeg x2))))))
def P_X8_copy (v_z : Nat → Int32) (v_p1 : Nat → Int32) (K : (Nat → Int32) → Prop) : Prop := (∃ ne : Nat, P_X8_copy_L2 v_z (fun v_p1_3 => K v_p1_3) ne (0 : Int32) v_p1)
set_option maxHeartbeats 4000000 in
set_option maxRecDepth 100000 in
theorem l_X8_copy_2 {Γ : g_C} (X : g_X Γ (g_Rm 0 0) cX8_copy RX8 3) (h0 : Nat) (h1 : Nat) (v_z : Nat → Int32) {C20 : (Nat → Int32) → Prop} (hC20 : ∀ (v_p1 : Nat → Int32), C20 v_p1 → g_G Γ (g_Rm 0 0) 3 20 [] [] (W_X8_copy (g_env Γ) h0 h1 v_z v_p1)) : ∀ (n : Nat) (x2 : Int32) (v_p1 : Nat → Int32), P_X8_copy_L2 v_z C20 n x2 v_p1 → g_G Γ (g_Rm 0 0) 3 2 [(0, .ref h0), (1, .ref h1), (2, .int x2)] [] (W_X8_copy (g_env Γ) h0 h1 v_z v_p1) := by
  intro n
  induction n with
  | zero => intro x2 v_p1 h; exact False.elim h
  | succ n ih =>
    intro x2 v_p1 h
    unfold P_X8_copy_L2 at h
    refine g_iload_n 2 X dX8_copy_2 2 rfl rfl ?_
    refine g_bipush 3 X (30 : Int32) dX8_copy_3 k_bp_30 ?_
    refine g_icmp_ge 5 X 20 dX8_copy_5 (by decide) (fun c => ?_) (fun c => ?_)
    · replace h := h.1 c
      refine g_sub [] [] rfl ?_
      exact hC20 v_p1 h
    · replace h := h.2 c
      refine g_aload_n 8 X dX8_copy_8 1 rfl rfl ?_
      refine g_iload_n 9 X dX8_copy_9 2 rfl rfl ?_
      refine g_aload_n 10 X dX8_copy_10 0 rfl rfl ?_
      refine g_iload_n 11 X dX8_copy_11 2 rfl rfl ?_
      have f2 := h.1; replace h := h.2
      refine g_iald 12 X dX8_copy_12 0 rfl rfl f2 ?_
      refine g_iast 13 X (W_X8_copy (g_env Γ) h0 h1 v_z (upd v_p1 (Int32.toNatClampNeg x2) (v_z (Int32.toNatClampNeg x2)))) dX8_copy_13 1 rfl rfl f2 rfl ?_
      refine g_iinc 14 X (x2 + (1 : Int32)) [(2, .int (x2 + (1 : Int32))), (0, .ref h0), (1, .ref h1)] dX8_copy_14 2 rfl (k_ii_1 _) (Nat.le_of_ble_eq_true rfl) rfl ?_
      refine g_goto 17 X 2 dX8_copy_17 (by decide) ?_
      refine g_sub [(0, .ref h0), (1, .ref h1), (2, .int (x2 + (1 : Int32)))] [1, 2, 0] rfl ?_
      exact ih (x2 + (1 : Int32)) (upd v_p1 (Int32.toNatClampNeg x2) (v_z (Int32.toNatClampNeg x2))) h
set_option maxHeartbeats 4000000 in
set_option maxRecDepth 100000 in
theorem c_X8_copy {l : Launch} {E : g_E} (h0 : Nat) (h1 : Nat) (v_z : Nat → Int32) (v_p1 : Nat → Int32) {K : (Nat → Int32) → Prop} (h : P_X8_copy v_z v_p1 K) : g_CV l E yX8_copy cX8_copy 3 (g_Rm 0 0) [.ref h0, .ref h1] (W_X8_copy E h0 h1 v_z v_p1) (fun (u : (Nat → Int32)) => K u) (fun (u : (Nat → Int32)) => (W_X8_copy E h0 h1 v_z u)) := by
  refine g_entV RX8 (by decide) rfl (Nat.le_of_ble_eq_true rfl) ?_
  intro Γ X hE hl ret
  subst hE
  subst hl
  unfold P_X8_copy at h
  show g_G Γ (g_Rm 0 0) 3 0 [(0, .ref h0), (1, .ref h1)] [] (W_X8_copy (g_env Γ) h0 h1 v_z v_p1)
  refine g_iconst 0 X (0 : Int32) dX8_copy_0 k_ic_0 ?_
  refine g_istore_n 1 X [(2, .int (0 : Int32)), (0, .ref h0), (1, .ref h1)] dX8_copy_1 rfl (Nat.le_of_ble_eq_true rfl) rfl ?_
  obtain ⟨n4, h⟩ := h
  refine g_sub [(0, .ref h0), (1, .ref h1), (2, .int (0 : Int32))] [1, 2, 0] rfl ?_
  refine l_X8_copy_2 X h0 h1 v_z (fun v_p1_3 h => ?_) n4 (0 : Int32) v_p1 h
  · exact ret 20 _ (v_p1_3) dX8_copy_20 h

def W_X8_in (E : g_E) : va_W := []
def P_X8_in (b0 : Int64) (b1 : Int64) (b2 : Int64) (K : Int32 → Prop) : Prop := (((lg_cmp b0 b1) < (0 : Int32) → K (0 : Int32)) ∧ (¬ (lg_cmp b0 b1) < (0 : Int32) → (((0 : Int32) < (lg_cmp b0 b2) → K (0 : Int32)) ∧ (¬ (0 : Int32) < (lg_cmp b0 b2) → K (1 : Int32)))))
set_option maxHeartbeats 4000000 in
set_option maxRecDepth 100000 in
theorem c_X8_in {l : Launch} {E : g_E} (b0 : Int64) (b1 : Int64) (b2 : Int64) {K : Int32 → Prop} (h : P_X8_in b0 b1 b2 K) : g_CI l E yX8_in cX8_in 6 .boolean (g_Rm 0 0) [.long b0, .long b1, .long b2] (W_X8_in E) (fun r (u : Unit) => K r) (fun (u : Unit) => (W_X8_in E)) := by
  refine g_entI RX8 (by decide) rfl (Nat.le_of_ble_eq_true rfl) ?_
  intro Γ X hE hl ret
  subst hE
  subst hl
  unfold P_X8_in at h
  show g_G Γ (g_Rm 0 0) 6 0 [(0, .long b0), (2, .long b1), (4, .long b2)] [] (W_X8_in (g_env Γ))
  refine g_lload_n 0 X dX8_in_0 0 rfl rfl ?_
  refine g_lload_n 1 X dX8_in_1 1 rfl rfl ?_
  refine g_lcmp 2 X dX8_in_2 ?_
  refine g_if_lt 3 X 17 dX8_in_3 (by decide) (fun c => ?_) (fun c => ?_)
  · replace h := h.1 c
    refine g_iconst 17 X (0 : Int32) dX8_in_17 k_ic_0 ?_
    exact ret 18 _ _ () dX8_in_18 (by decide) h
  · replace h := h.2 c
    refine g_lload_n 6 X dX8_in_6 0 rfl rfl ?_
    refine g_lload 7 X dX8_in_7 2 rfl ?_
    refine g_lcmp 9 X dX8_in_9 ?_
    refine g_if_gt 10 X 17 dX8_in_10 (by decide) (fun c => ?_) (fun c => ?_)
    · replace h := h.1 c
      refine g_iconst 17 X (0 : Int32) dX8_in_17 k_ic_0 ?_
      exact ret 18 _ _ () dX8_in_18 (by decide) h
    · replace h := h.2 c
      refine g_iconst 13 X (1 : Int32) dX8_in_13 k_ic_1 ?_
      refine g_goto 14 X 18 dX8_in_14 (by decide) ?_
      exact ret 18 _ _ () dX8_in_18 (by decide) h

def W_X8_has (E : g_E) : va_W := []
def P_X8_has (b0 : Int32) (b1 : Int32) (K : Int32 → Prop) : Prop := ((b1 < (0 : Int32) → K (0 : Int32)) ∧ (¬ b1 < (0 : Int32) → ((¬ ((b0 >>> (b1 &&& (31 : Int32))) &&& (1 : Int32)) = (1 : Int32) → K (0 : Int32)) ∧ (((b0 >>> (b1 &&& (31 : Int32))) &&& (1 : Int32)) = (1 : Int32) → K (1 : Int32)))))
set_option maxHeartbeats 4000000 in
set_option maxRecDepth 100000 in
theorem c_X8_has {l : Launch} {E : g_E} (b0 : Int32) (b1 : Int32) {K : Int32 → Prop} (h : P_X8_has b0 b1 K) : g_CI l E yX8_has cX8_has 2 .boolean (g_Rm 0 0) [.int b0, .int b1] (W_X8_has E) (fun r (u : Unit) => K r) (fun (u : Unit) => (W_X8_has E)) := by
  refine g_entI RX8 (by decide) rfl (Nat.le_of_ble_eq_true rfl) ?_
  intro Γ X hE hl ret
  subst hE
  subst hl
  unfold P_X8_has at h
  show g_G Γ (g_Rm 0 0) 2 0 [(0, .int b0), (1, .int b1)] [] (W_X8_has (g_env Γ))
  refine g_iload_n 0 X dX8_has_0 1 rfl rfl ?_
  refine g_if_lt 1 X 17 dX8_has_1 (by decide) (fun c => ?_) (fun c => ?_)
  · replace h := h.1 c
    refine g_iconst 17 X (0 : Int32) dX8_has_17 k_ic_0 ?_
    exact ret 18 _ _ () dX8_has_18 (by decide) h
  · replace h := h.2 c
    refine g_iload_n 4 X dX8_has_4 0 rfl rfl ?_
    refine g_iload_n 5 X dX8_has_5 1 rfl rfl ?_
    refine g_ishr 6 X dX8_has_6 ?_
    refine g_iconst 7 X (1 : Int32) dX8_has_7 k_ic_1 ?_
    refine g_iand 8 X dX8_has_8 ?_
    refine g_iconst 9 X (1 : Int32) dX8_has_9 k_ic_1 ?_
    refine g_icmp_ne 10 X 17 dX8_has_10 (by decide) (fun c => ?_) (fun c => ?_)
    · replace h := h.1 c
      refine g_iconst 17 X (0 : Int32) dX8_has_17 k_ic_0 ?_
      exact ret 18 _ _ () dX8_has_18 (by decide) h
    · replace h := h.2 c
      refine g_iconst 13 X (1 : Int32) dX8_has_13 k_ic_1 ?_
      refine g_goto 14 X 18 dX8_has_14 (by decide) ?_
      exact ret 18 _ _ () dX8_has_18 (by decide) h

def W_X8_ones (E : g_E) : va_W := []
def P_X8_ones_L4 (x0 : Int32) (C24 : Int32 → Prop) : Nat → Int32 → Int32 → Prop
  | 0, _, _ => False
  | n + 1, x1, x2 => (((8 : Int32) ≤ x2 → C24 x1) ∧ (¬ (8 : Int32) ≤ x2 → P_X8_ones_L4 x0 C24 n (x1 + ((x0 >>> (x2 &&& (31 : Int32))) &&& (1 : Int32))) (x2 + (1 : Int32))))
def P_X8_ones (b0 : Int32) (K : Int32 → Prop) : Prop := (∃ ne : Nat, P_X8_ones_L4 b0 (fun x1 => K x1) ne (0 : Int32) (0 : Int32))
set_option maxHeartbeats 4000000 in
set_option maxRecDepth 100000 in
theorem l_X8_ones_4 {Γ : g_C} (X : g_X Γ (g_Rm 0 0) cX8_ones RX8 3) (x0 : Int32) {C24 : Int32 → Prop} (hC24 : ∀ (x1 : Int32), C24 x1 → g_G Γ (g_Rm 0 0) 3 24 [(1, .int x1)] [] (W_X8_ones (g_env Γ))) : ∀ (n : Nat) (x1 : Int32) (x2 : Int32), P_X8_ones_L4 x0 C24 n x1 x2 → g_G Γ (g_Rm 0 0) 3 4 [(0, .int x0), (1, .int x1), (2, .int x2)] [] (W_X8_ones (g_env Γ)) := by
  intro n
  induction n with
  | zero => intro x1 x2 h; exact False.elim h
  | succ n ih =>
    intro x1 x2 h
    unfold P_X8_ones_L4 at h
    refine g_iload_n 4 X dX8_ones_4 2 rfl rfl ?_
    refine g_bipush 5 X (8 : Int32) dX8_ones_5 k_bp_8 ?_
    refine g_icmp_ge 7 X 24 dX8_ones_7 (by decide) (fun c => ?_) (fun c => ?_)
    · replace h := h.1 c
      refine g_sub [(1, .int x1)] [1] rfl ?_
      exact hC24 x1 h
    · replace h := h.2 c
      refine g_iload_n 10 X dX8_ones_10 1 rfl rfl ?_
      refine g_iload_n 11 X dX8_ones_11 0 rfl rfl ?_
      refine g_iload_n 12 X dX8_ones_12 2 rfl rfl ?_
      refine g_ishr 13 X dX8_ones_13 ?_
      refine g_iconst 14 X (1 : Int32) dX8_ones_14 k_ic_1 ?_
      refine g_iand 15 X dX8_ones_15 ?_
      refine g_iadd 16 X dX8_ones_16 ?_
      refine g_istore_n 17 X [(1, .int (x1 + ((x0 >>> (x2 &&& (31 : Int32))) &&& (1 : Int32)))), (0, .int x0), (2, .int x2)] dX8_ones_17 rfl (Nat.le_of_ble_eq_true rfl) rfl ?_
      refine g_iinc 18 X (x2 + (1 : Int32)) [(2, .int (x2 + (1 : Int32))), (1, .int (x1 + ((x0 >>> (x2 &&& (31 : Int32))) &&& (1 : Int32)))), (0, .int x0)] dX8_ones_18 2 rfl (k_ii_1 _) (Nat.le_of_ble_eq_true rfl) rfl ?_
      refine g_goto 21 X 4 dX8_ones_21 (by decide) ?_
      refine g_sub [(0, .int x0), (1, .int (x1 + ((x0 >>> (x2 &&& (31 : Int32))) &&& (1 : Int32)))), (2, .int (x2 + (1 : Int32)))] [2, 1, 0] rfl ?_
      exact ih (x1 + ((x0 >>> (x2 &&& (31 : Int32))) &&& (1 : Int32))) (x2 + (1 : Int32)) h
set_option maxHeartbeats 4000000 in
set_option maxRecDepth 100000 in
theorem c_X8_ones {l : Launch} {E : g_E} (b0 : Int32) {K : Int32 → Prop} (h : P_X8_ones b0 K) : g_CI l E yX8_ones cX8_ones 3 .int (g_Rm 0 0) [.int b0] (W_X8_ones E) (fun r (u : Unit) => K r) (fun (u : Unit) => (W_X8_ones E)) := by
  refine g_entI RX8 (by decide) rfl (Nat.le_of_ble_eq_true rfl) ?_
  intro Γ X hE hl ret
  subst hE
  subst hl
  unfold P_X8_ones at h
  show g_G Γ (g_Rm 0 0) 3 0 [(0, .int b0)] [] (W_X8_ones (g_env Γ))
  refine g_iconst 0 X (0 : Int32) dX8_ones_0 k_ic_0 ?_
  refine g_istore_n 1 X [(1, .int (0 : Int32)), (0, .int b0)] dX8_ones_1 rfl (Nat.le_of_ble_eq_true rfl) rfl ?_
  refine g_iconst 2 X (0 : Int32) dX8_ones_2 k_ic_0 ?_
  refine g_istore_n 3 X [(2, .int (0 : Int32)), (1, .int (0 : Int32)), (0, .int b0)] dX8_ones_3 rfl (Nat.le_of_ble_eq_true rfl) rfl ?_
  obtain ⟨n2, h⟩ := h
  refine g_sub [(0, .int b0), (1, .int (0 : Int32)), (2, .int (0 : Int32))] [2, 1, 0] rfl ?_
  refine l_X8_ones_4 X b0 (fun x1 h => ?_) n2 (0 : Int32) (0 : Int32) h
  · refine g_iload_n 24 X dX8_ones_24 0 rfl rfl ?_
    exact ret 25 _ _ () dX8_ones_25 (vp_nar_int _) h

def W_X8_raised (E : g_E) : va_W := []
def P_X8_raised_L4 (x0 : Int32) (x1 : Int32) (C19 : Int32 → Prop) : Nat → Int32 → Int32 → Prop
  | 0, _, _ => False
  | n + 1, x2, x3 => ((x1 ≤ x3 → C19 x2) ∧ (¬ x1 ≤ x3 → P_X8_raised_L4 x0 x1 C19 n (x2 * x0) (x3 + (1 : Int32))))
def P_X8_raised (b0 : Int32) (b1 : Int32) (K : Int32 → Prop) : Prop := (∃ ne : Nat, P_X8_raised_L4 b0 b1 (fun x1 => K x1) ne (1 : Int32) (0 : Int32))
set_option maxHeartbeats 4000000 in
set_option maxRecDepth 100000 in
theorem l_X8_raised_4 {Γ : g_C} (X : g_X Γ (g_Rm 0 0) cX8_raised RX8 4) (x0 : Int32) (x1 : Int32) {C19 : Int32 → Prop} (hC19 : ∀ (x2 : Int32), C19 x2 → g_G Γ (g_Rm 0 0) 4 19 [(2, .int x2)] [] (W_X8_raised (g_env Γ))) : ∀ (n : Nat) (x2 : Int32) (x3 : Int32), P_X8_raised_L4 x0 x1 C19 n x2 x3 → g_G Γ (g_Rm 0 0) 4 4 [(0, .int x0), (1, .int x1), (2, .int x2), (3, .int x3)] [] (W_X8_raised (g_env Γ)) := by
  intro n
  induction n with
  | zero => intro x2 x3 h; exact False.elim h
  | succ n ih =>
    intro x2 x3 h
    unfold P_X8_raised_L4 at h
    refine g_iload_n 4 X dX8_raised_4 3 rfl rfl ?_
    refine g_iload_n 5 X dX8_raised_5 1 rfl rfl ?_
    refine g_icmp_ge 6 X 19 dX8_raised_6 (by decide) (fun c => ?_) (fun c => ?_)
    · replace h := h.1 c
      refine g_sub [(2, .int x2)] [2] rfl ?_
      exact hC19 x2 h
    · replace h := h.2 c
      refine g_iload_n 9 X dX8_raised_9 2 rfl rfl ?_
      refine g_iload_n 10 X dX8_raised_10 0 rfl rfl ?_
      refine g_imul 11 X dX8_raised_11 ?_
      refine g_istore_n 12 X [(2, .int (x2 * x0)), (0, .int x0), (1, .int x1), (3, .int x3)] dX8_raised_12 rfl (Nat.le_of_ble_eq_true rfl) rfl ?_
      refine g_iinc 13 X (x3 + (1 : Int32)) [(3, .int (x3 + (1 : Int32))), (2, .int (x2 * x0)), (0, .int x0), (1, .int x1)] dX8_raised_13 3 rfl (k_ii_1 _) (Nat.le_of_ble_eq_true rfl) rfl ?_
      refine g_goto 16 X 4 dX8_raised_16 (by decide) ?_
      refine g_sub [(0, .int x0), (1, .int x1), (2, .int (x2 * x0)), (3, .int (x3 + (1 : Int32)))] [2, 3, 1, 0] rfl ?_
      exact ih (x2 * x0) (x3 + (1 : Int32)) h
set_option maxHeartbeats 4000000 in
set_option maxRecDepth 100000 in
theorem c_X8_raised {l : Launch} {E : g_E} (b0 : Int32) (b1 : Int32) {K : Int32 → Prop} (h : P_X8_raised b0 b1 K) : g_CI l E yX8_raised cX8_raised 4 .int (g_Rm 0 0) [.int b0, .int b1] (W_X8_raised E) (fun r (u : Unit) => K r) (fun (u : Unit) => (W_X8_raised E)) := by
  refine g_entI RX8 (by decide) rfl (Nat.le_of_ble_eq_true rfl) ?_
  intro Γ X hE hl ret
  subst hE
  subst hl
  unfold P_X8_raised at h
  show g_G Γ (g_Rm 0 0) 4 0 [(0, .int b0), (1, .int b1)] [] (W_X8_raised (g_env Γ))
  refine g_iconst 0 X (1 : Int32) dX8_raised_0 k_ic_1 ?_
  refine g_istore_n 1 X [(2, .int (1 : Int32)), (0, .int b0), (1, .int b1)] dX8_raised_1 rfl (Nat.le_of_ble_eq_true rfl) rfl ?_
  refine g_iconst 2 X (0 : Int32) dX8_raised_2 k_ic_0 ?_
  refine g_istore_n 3 X [(3, .int (0 : Int32)), (2, .int (1 : Int32)), (0, .int b0), (1, .int b1)] dX8_raised_3 rfl (Nat.le_of_ble_eq_true rfl) rfl ?_
  obtain ⟨n2, h⟩ := h
  refine g_sub [(0, .int b0), (1, .int b1), (2, .int (1 : Int32)), (3, .int (0 : Int32))] [2, 3, 1, 0] rfl ?_
  refine l_X8_raised_4 X b0 b1 (fun x1 h => ?_) n2 (1 : Int32) (0 : Int32) h
  · refine g_iload_n 19 X dX8_raised_19 0 rfl rfl ?_
    exact ret 20 _ _ () dX8_raised_20 (vp_nar_int _) h

def W_X8_factorial (E : g_E) : va_W := []
def P_X8_factorial_L4 (x0 : Int32) (C19 : Int32 → Prop) : Nat → Int32 → Int32 → Prop
  | 0, _, _ => False
  | n + 1, x1, x2 => ((x0 < x2 → C19 x1) ∧ (¬ x0 < x2 → P_X8_factorial_L4 x0 C19 n (x1 * x2) (x2 + (1 : Int32))))
def P_X8_factorial (b0 : Int32) (K : Int32 → Prop) : Prop := (∃ ne : Nat, P_X8_factorial_L4 b0 (fun x1 => K x1) ne (1 : Int32) (2 : Int32))
set_option maxHeartbeats 4000000 in
set_option maxRecDepth 100000 in
theorem l_X8_factorial_4 {Γ : g_C} (X : g_X Γ (g_Rm 0 0) cX8_factorial RX8 3) (x0 : Int32) {C19 : Int32 → Prop} (hC19 : ∀ (x1 : Int32), C19 x1 → g_G Γ (g_Rm 0 0) 3 19 [(1, .int x1)] [] (W_X8_factorial (g_env Γ))) : ∀ (n : Nat) (x1 : Int32) (x2 : Int32), P_X8_factorial_L4 x0 C19 n x1 x2 → g_G Γ (g_Rm 0 0) 3 4 [(0, .int x0), (1, .int x1), (2, .int x2)] [] (W_X8_factorial (g_env Γ)) := by
  intro n
  induction n with
  | zero => intro x1 x2 h; exact False.elim h
  | succ n ih =>
    intro x1 x2 h
    unfold P_X8_factorial_L4 at h
    refine g_iload_n 4 X dX8_factorial_4 2 rfl rfl ?_
    refine g_iload_n 5 X dX8_factorial_5 0 rfl rfl ?_
    refine g_icmp_gt 6 X 19 dX8_factorial_6 (by decide) (fun c => ?_) (fun c => ?_)
    · replace h := h.1 c
      refine g_sub [(1, .int x1)] [1] rfl ?_
      exact hC19 x1 h
    · replace h := h.2 c
      refine g_iload_n 9 X dX8_factorial_9 1 rfl rfl ?_
      refine g_iload_n 10 X dX8_factorial_10 2 rfl rfl ?_
      refine g_imul 11 X dX8_factorial_11 ?_
      refine g_istore_n 12 X [(1, .int (x1 * x2)), (0, .int x0), (2, .int x2)] dX8_factorial_12 rfl (Nat.le_of_ble_eq_true rfl) rfl ?_
      refine g_iinc 13 X (x2 + (1 : Int32)) [(2, .int (x2 + (1 : Int32))), (1, .int (x1 * x2)), (0, .int x0)] dX8_factorial_13 2 rfl (k_ii_1 _) (Nat.le_of_ble_eq_true rfl) rfl ?_
      refine g_goto 16 X 4 dX8_factorial_16 (by decide) ?_
      refine g_sub [(0, .int x0), (1, .int (x1 * x2)), (2, .int (x2 + (1 : Int32)))] [2, 1, 0] rfl ?_
      exact ih (x1 * x2) (x2 + (1 : Int32)) h
set_option maxHeartbeats 4000000 in
set_option maxRecDepth 100000 in
theorem c_X8_factorial {l : Launch} {E : g_E} (b0 : Int32) {K : Int32 → Prop} (h : P_X8_factorial b0 K) : g_CI l E yX8_factorial cX8_factorial 3 .int (g_Rm 0 0) [.int b0] (W_X8_factorial E) (fun r (u : Unit) => K r) (fun (u : Unit) => (W_X8_factorial E)) := by
  refine g_entI RX8 (by decide) rfl (Nat.le_of_ble_eq_true rfl) ?_
  intro Γ X hE hl ret
  subst hE
  subst hl
  unfold P_X8_factorial at h
  show g_G Γ (g_Rm 0 0) 3 0 [(0, .int b0)] [] (W_X8_factorial (g_env Γ))
  refine g_iconst 0 X (1 : Int32) dX8_factorial_0 k_ic_1 ?_
  refine g_istore_n 1 X [(1, .int (1 : Int32)), (0, .int b0)] dX8_factorial_1 rfl (Nat.le_of_ble_eq_true rfl) rfl ?_
  refine g_iconst 2 X (2 : Int32) dX8_factorial_2 k_ic_2 ?_
  refine g_istore_n 3 X [(2, .int (2 : Int32)), (1, .int (1 : Int32)), (0, .int b0)] dX8_factorial_3 rfl (Nat.le_of_ble_eq_true rfl) rfl ?_
  obtain ⟨n2, h⟩ := h
  refine g_sub [(0, .int b0), (1, .int (1 : Int32)), (2, .int (2 : Int32))] [2, 1, 0] rfl ?_
  refine l_X8_factorial_4 X b0 (fun x1 h => ?_) n2 (1 : Int32) (2 : Int32) h
  · refine g_iload_n 19 X dX8_factorial_19 0 rfl rfl ?_
    exact ret 20 _ _ () dX8_factorial_20 (vp_nar_int _) h

def W_X8_fraction (E : g_E) : va_W := []
def P_X8_fraction_L14 (x0 : Int32) (x1 : Int32) (x2 : Int32) (C35 : Int32 → Prop) : Nat → Int32 → Int32 → Prop
  | 0, _, _ => False
  | n + 1, x3, x4 => ((x4 = (0 : Int32) → C35 x3) ∧ (¬ x4 = (0 : Int32) → (¬ x4 = 0 ∧ P_X8_fraction_L14 x0 x1 x2 C35 n x4 (x3 - x3 / x4 * x4))))
def P_X8_fraction (b0 : Int32) (b1 : Int32) (b2 : Int32) (K : Int32 → Prop) : Prop := (((0 : Int32) ≤ b0 → (∃ ne : Nat, P_X8_fraction_L14 b0 b1 b2 (fun x3 => ((b2 = (0 : Int32) → (¬ x3 = 0 ∧ K (b1 / x3))) ∧ (¬ b2 = (0 : Int32) → (¬ x3 = 0 ∧ K (b0 / x3))))) ne b0 b1)) ∧ (¬ (0 : Int32) ≤ b0 → (∃ ne : Nat, P_X8_fraction_L14 b0 b1 b2 (fun x7 => ((b2 = (0 : Int32) → (¬ x7 = 0 ∧ K (b1 / x7))) ∧ (¬ b2 = (0 : Int32) → (¬ x7 = 0 ∧ K (b0 / x7))))) ne (-b0) b1)))
set_option maxHeartbeats 4000000 in
set_option maxRecDepth 100000 in
theorem l_X8_fraction_14 {Γ : g_C} (X : g_X Γ (g_Rm 0 0) cX8_fraction RX8 6) (x0 : Int32) (x1 : Int32) (x2 : Int32) {C35 : Int32 → Prop} (hC35 : ∀ (x3 : Int32), C35 x3 → g_G Γ (g_Rm 0 0) 6 35 [(0, .int x0), (1, .int x1), (2, .int x2), (3, .int x3)] [] (W_X8_fraction (g_env Γ))) : ∀ (n : Nat) (x3 : Int32) (x4 : Int32), P_X8_fraction_L14 x0 x1 x2 C35 n x3 x4 → g_G Γ (g_Rm 0 0) 6 14 [(0, .int x0), (1, .int x1), (2, .int x2), (3, .int x3), (4, .int x4)] [] (W_X8_fraction (g_env Γ)) := by
  intro n
  induction n with
  | zero => intro x3 x4 h; exact False.elim h
  | succ n ih =>
    intro x3 x4 h
    unfold P_X8_fraction_L14 at h
    refine g_iload 14 X dX8_fraction_14 4 rfl ?_
    refine g_if_eq 16 X 35 dX8_fraction_16 (by decide) (fun c => ?_) (fun c => ?_)
    · replace h := h.1 c
      refine g_sub [(0, .int x0), (1, .int x1), (2, .int x2), (3, .int x3)] [0, 1, 2, 3] rfl ?_
      exact hC35 x3 h
    · replace h := h.2 c
      refine g_iload_n 19 X dX8_fraction_19 3 rfl rfl ?_
      refine g_iload 20 X dX8_fraction_20 4 rfl ?_
      have f2 := h.1; replace h := h.2
      refine g_irem 22 X dX8_fraction_22 f2 ?_
      refine g_istore 23 X [(5, .int (x3 - x3 / x4 * x4)), (0, .int x0), (1, .int x1), (2, .int x2), (3, .int x3), (4, .int x4)] dX8_fraction_23 (Nat.le_of_ble_eq_true rfl) rfl ?_
      refine g_iload 25 X dX8_fraction_25 5 rfl ?_
      refine g_istore_n 27 X [(3, .int x4), (5, .int (x3 - x3 / x4 * x4)), (0, .int x0), (1, .int x1), (2, .int x2), (4, .int x4)] dX8_fraction_27 rfl (Nat.le_of_ble_eq_true rfl) rfl ?_
      refine g_iload 28 X dX8_fraction_28 1 rfl ?_
      refine g_istore 30 X [(4, .int (x3 - x3 / x4 * x4)), (3, .int x4), (5, .int (x3 - x3 / x4 * x4)), (0, .int x0), (1, .int x1), (2, .int x2)] dX8_fraction_30 (Nat.le_of_ble_eq_true rfl) rfl ?_
      refine g_goto 32 X 14 dX8_fraction_32 (by decide) ?_
      refine g_sub [(0, .int x0), (1, .int x1), (2, .int x2), (3, .int x4), (4, .int (x3 - x3 / x4 * x4))] [3, 4, 5, 1, 0] rfl ?_
      exact ih x4 (x3 - x3 / x4 * x4) h
set_option maxHeartbeats 4000000 in
set_option maxRecDepth 100000 in
theorem c_X8_fraction {l : Launch} {E : g_E} (b0 : Int32) (b1 : Int32) (b2 : Int32) {K : Int32 → Prop} (h : P_X8_fraction b0 b1 b2 K) : g_CI l E yX8_fraction cX8_fraction 6 .int (g_Rm 0 0) [.int b0, .int b1, .int b2] (W_X8_fraction E) (fun r (u : Unit) => K r) (fun (u : Unit) => (W_X8_fraction E)) := by
  refine g_entI RX8 (by decide) rfl (Nat.le_of_ble_eq_true rfl) ?_
  intro Γ X hE hl ret
  subst hE
  subst hl
  unfold P_X8_fraction at h
  show g_G Γ (g_Rm 0 0) 6 0 [(0, .int b0), (1, .int b1), (2, .int b2)] [] (W_X8_fraction (g_env Γ))
  refine g_iload_n 0 X dX8_fraction_0 0 rfl rfl ?_
  refine g_if_ge 1 X 9 dX8_fraction_1 (by decide) (fun c => ?_) (fun c => ?_)
  · replace h := h.1 c
    refine g_iload_n 9 X dX8_fraction_9 0 rfl rfl ?_
    refine g_istore_n 10 X [(3, .int b0), (0, .int b0), (1, .int b1), (2, .int b2)] dX8_fraction_10 rfl (Nat.le_of_ble_eq_true rfl) rfl ?_
    refine g_iload_n 11 X dX8_fraction_11 2 rfl rfl ?_
    refine g_istore 12 X [(4, .int b1), (3, .int b0), (0, .int b0), (1, .int b1), (2, .int b2)] dX8_fraction_12 (Nat.le_of_ble_eq_true rfl) rfl ?_
    obtain ⟨n6, h⟩ := h
    refine g_sub [(0, .int b0), (1, .int b1), (2, .int b2), (3, .int b0), (4, .int b1)] [2, 3, 4, 1, 0] rfl ?_
    refine l_X8_fraction_14 X b0 b1 b2 (fun x3 h => ?_) n6 b0 b1 h
    · refine g_iload_n 35 X dX8_fraction_35 2 rfl rfl ?_
      refine g_if_eq 36 X 45 dX8_fraction_36 (by decide) (fun c => ?_) (fun c => ?_)
      · replace h := h.1 c
        refine g_iload_n 45 X dX8_fraction_45 1 rfl rfl ?_
        refine g_iload_n 46 X dX8_fraction_46 3 rfl rfl ?_
        have f4 := h.1; replace h := h.2
        refine g_idiv 47 X dX8_fraction_47 f4 ?_
        exact ret 48 _ _ () dX8_fraction_48 (vp_nar_int _) h
      · replace h := h.2 c
        refine g_iload_n 39 X dX8_fraction_39 0 rfl rfl ?_
        refine g_iload_n 40 X dX8_fraction_40 3 rfl rfl ?_
        have f5 := h.1; replace h := h.2
        refine g_idiv 41 X dX8_fraction_41 f5 ?_
        refine g_goto 42 X 48 dX8_fraction_42 (by decide) ?_
        exact ret 48 _ _ () dX8_fraction_48 (vp_nar_int _) h
  · replace h := h.2 c
    refine g_iload_n 4 X dX8_fraction_4 0 rfl rfl ?_
    refine g_ineg 5 X dX8_fraction_5 ?_
    refine g_goto 6 X 10 dX8_fraction_6 (by decide) ?_
    refine g_istore_n 10 X [(3, .int (-b0)), (0, .int b0), (1, .int b1), (2, .int b2)] dX8_fraction_10 rfl (Nat.le_of_ble_eq_true rfl) rfl ?_
    refine g_iload_n 11 X dX8_fraction_11 2 rfl rfl ?_
    refine g_istore 12 X [(4, .int b1), (3, .int (-b0)), (0, .int b0), (1, .int b1), (2, .int b2)] dX8_fraction_12 (Nat.le_of_ble_eq_true rfl) rfl ?_
    obtain ⟨n10, h⟩ := h
    refine g_sub [(0, .int b0), (1, .int b1), (2, .int b2), (3, .int (-b0)), (4, .int b1)] [2, 3, 4, 1, 0] rfl ?_
    refine l_X8_fraction_14 X b0 b1 b2 (fun x7 h => ?_) n10 (-b0) b1 h
    · refine g_iload_n 35 X dX8_fraction_35 2 rfl rfl ?_
      refine g_if_eq 36 X 45 dX8_fraction_36 (by decide) (fun c => ?_) (fun c => ?_)
      · replace h := h.1 c
        refine g_iload_n 45 X dX8_fraction_45 1 rfl rfl ?_
        refine g_iload_n 46 X dX8_fraction_46 3 rfl rfl ?_
        have f8 := h.1; replace h := h.2
        refine g_idiv 47 X dX8_fraction_47 f8 ?_
        exact ret 48 _ _ () dX8_fraction_48 (vp_nar_int _) h
      · replace h := h.2 c
        refine g_iload_n 39 X dX8_fraction_39 0 rfl rfl ?_
        refine g_iload_n 40 X dX8_fraction_40 3 rfl rfl ?_
        have f9 := h.1; replace h := h.2
        refine g_idiv 41 X dX8_fraction_41 f9 ?_
        refine g_goto 42 X 48 dX8_fraction_42 (by decide) ?_
        exact ret 48 _ _ () dX8_fraction_48 (vp_nar_int _) h

def W_X8_isDot (E : g_E) (h0 : Nat) (o0 o1 o2 o3 o4 o5 o6 o7 o8 o9 o10 o11 o12 o13 o14 o15 o16 o17 o18 o19 o20 o21 o22 o23 o24 o25 o26 o27 o28 o29 o30 o31 o32 : Value) (v_z_dots : Int32) : va_W := [(h0, .inr (8, [o0, o1, .int v_z_dots, o2, o3, o4, o5, o6, o7, o8, o9, o10, o11, o12, o13, o14, o15, o16, o17, o18, o19, o20, o21, o22, o23, o24, o25, o26, o27, o28, o29, o30, o31, o32]))]
def P_X8_isDot (b1 : Int32) (v_z_dots : Int32) (K : Int32 → Prop) : Prop := (P_X8_in (Int32.toInt64 b1) (0 : Int64) (Int32.toInt64 (v_z_dots - (1 : Int32))) (fun r1 => (narrow .boolean (.int r1) = .int r1 ∧ K r1)))
set_option maxHeartbeats 4000000 in
set_option maxRecDepth 100000 in
theorem c_X8_isDot {l : Launch} {E : g_E} (h0 : Nat) (o0 o1 o2 o3 o4 o5 o6 o7 o8 o9 o10 o11 o12 o13 o14 o15 o16 o17 o18 o19 o20 o21 o22 o23 o24 o25 o26 o27 o28 o29 o30 o31 o32 : Value) (v_z_dots : Int32) (b1 : Int32) {K : Int32 → Prop} (h : P_X8_isDot b1 v_z_dots K) : g_CI l E yX8_isDot cX8_isDot 2 .boolean (g_Rm 1 25) [.ref h0, .int b1] (W_X8_isDot E h0 o0 o1 o2 o3 o4 o5 o6 o7 o8 o9 o10 o11 o12 o13 o14 o15 o16 o17 o18 o19 o20 o21 o22 o23 o24 o25 o26 o27 o28 o29 o30 o31 o32 v_z_dots) (fun r (u : Unit) => K r) (fun (u : Unit) => (W_X8_isDot E h0 o0 o1 o2 o3 o4 o5 o6 o7 o8 o9 o10 o11 o12 o13 o14 o15 o16 o17 o18 o19 o20 o21 o22 o23 o24 o25 o26 o27 o28 o29 o30 o31 o32 v_z_dots)) := by
  refine g_entI RX8 (by decide) rfl (Nat.le_of_ble_eq_true rfl) ?_
  intro Γ X hE hl ret
  subst hE
  subst hl
  unfold P_X8_isDot at h
  show g_G Γ (g_Rm 1 25) 2 0 [(0, .ref h0), (1, .int b1)] [] (W_X8_isDot (g_env Γ) h0 o0 o1 o2 o3 o4 o5 o6 o7 o8 o9 o10 o11 o12 o13 o14 o15 o16 o17 o18 o19 o20 o21 o22 o23 o24 o25 o26 o27 o28 o29 o30 o31 o32 v_z_dots)
  refine g_iload_n 0 X dX8_isDot_0 1 rfl rfl ?_
  refine g_i2l 1 X dX8_isDot_1 ?_
  refine g_lconst 2 X (0 : Int64) dX8_isDot_2 k_lc_0 ?_
  refine g_aload_n 3 X dX8_isDot_3 0 rfl rfl ?_
  refine g_get 4 X fa_X8_59 dX8_isDot_4 0 rfl rfl ?_
  refine g_iconst 7 X (1 : Int32) dX8_isDot_7 k_ic_1 ?_
  refine g_isub 8 X dX8_isDot_8 ?_
  refine g_i2l 9 X dX8_isDot_9 ?_
  refine g_cSI 10 X (st := []) mv_X8_69 dX8_isDot_10 [.long (Int32.toInt64 b1), .long (0 : Int64), .long (Int32.toInt64 (v_z_dots - (1 : Int32)))] (c_X8_in (Int32.toInt64 b1) (0 : Int64) (Int32.toInt64 (v_z_dots - (1 : Int32))) h) [] (fun u : Unit => (W_X8_isDot (g_env Γ) h0 o0 o1 o2 o3 o4 o5 o6 o7 o8 o9 o10 o11 o12 o13 o14 o15 o16 o17 o18 o19 o20 o21 o22 o23 o24 o25 o26 o27 o28 o29 o30 o31 o32 v_z_dots)) rfl ⟨(Nat.le_of_ble_eq_true rfl), (Nat.le_of_ble_eq_true rfl)⟩ ⟨rfl, rfl⟩ (Nat.le_of_ble_eq_true rfl) rfl (by decide) (fun _ => rfl) (fun _ => rfl) (fun r1 u h => ?_)
  have f2 := h.1; replace h := h.2
  exact ret 13 _ _ () dX8_isDot_13 f2 h

def W_X8_isLine (E : g_E) (h0 : Nat) (o0 o1 o2 o3 o4 o5 o6 o7 o8 o9 o10 o11 o12 o13 o14 o15 o16 o17 o18 o19 o20 o21 o22 o23 o24 o25 o26 o27 o28 o29 o30 o31 o32 : Value) (v_z_dots : Int32) : va_W := [(h0, .inr (8, [o0, o1, .int v_z_dots, o2, o3, o4, o5, o6, o7, o8, o9, o10, o11, o12, o13, o14, o15, o16, o17, o18, o19, o20, o21, o22, o23, o24, o25, o26, o27, o28, o29, o30, o31, o32]))]
def P_X8_isLine (b1 : Int32) (v_z_dots : Int32) (K : Int32 → Prop) : Prop := (P_X8_in (Int32.toInt64 b1) (0 : Int64) (Int32.toInt64 (((1 : Int32) <<< (v_z_dots &&& (31 : Int32))) - (1 : Int32))) (fun r1 => (narrow .boolean (.int r1) = .int r1 ∧ K r1)))
set_option maxHeartbeats 4000000 in
set_option maxRecDepth 100000 in
theorem c_X8_isLine {l : Launch} {E : g_E} (h0 : Nat) (o0 o1 o2 o3 o4 o5 o6 o7 o8 o9 o10 o11 o12 o13 o14 o15 o16 o17 o18 o19 o20 o21 o22 o23 o24 o25 o26 o27 o28 o29 o30 o31 o32 : Value) (v_z_dots : Int32) (b1 : Int32) {K : Int32 → Prop} (h : P_X8_isLine b1 v_z_dots K) : g_CI l E yX8_isLine cX8_isLine 2 .boolean (g_Rm 1 25) [.ref h0, .int b1] (W_X8_isLine E h0 o0 o1 o2 o3 o4 o5 o6 o7 o8 o9 o10 o11 o12 o13 o14 o15 o16 o17 o18 o19 o20 o21 o22 o23 o24 o25 o26 o27 o28 o29 o30 o31 o32 v_z_dots) (fun r (u : Unit) => K r) (fun (u : Unit) => (W_X8_isLine E h0 o0 o1 o2 o3 o4 o5 o6 o7 o8 o9 o10 o11 o12 o13 o14 o15 o16 o17 o18 o19 o20 o21 o22 o23 o24 o25 o26 o27 o28 o29 o30 o31 o32 v_z_dots)) := by
  refine g_entI RX8 (by decide) rfl (Nat.le_of_ble_eq_true rfl) ?_
  intro Γ X hE hl ret
  subst hE
  subst hl
  unfold P_X8_isLine at h
  show g_G Γ (g_Rm 1 25) 2 0 [(0, .ref h0), (1, .int b1)] [] (W_X8_isLine (g_env Γ) h0 o0 o1 o2 o3 o4 o5 o6 o7 o8 o9 o10 o11 o12 o13 o14 o15 o16 o17 o18 o19 o20 o21 o22 o23 o24 o25 o26 o27 o28 o29 o30 o31 o32 v_z_dots)
  refine g_iload_n 0 X dX8_isLine_0 1 rfl rfl ?_
  refine g_i2l 1 X dX8_isLine_1 ?_
  refine g_lconst 2 X (0 : Int64) dX8_isLine_2 k_lc_0 ?_
  refine g_iconst 3 X (1 : Int32) dX8_isLine_3 k_ic_1 ?_
  refine g_aload_n 4 X dX8_isLine_4 0 rfl rfl ?_
  refine g_get 5 X fa_X8_59 dX8_isLine_5 0 rfl rfl ?_
  refine g_ishl 8 X dX8_isLine_8 ?_
  refine g_iconst 9 X (1 : Int32) dX8_isLine_9 k_ic_1 ?_
  refine g_isub 10 X dX8_isLine_10 ?_
  refine g_i2l 11 X dX8_isLine_11 ?_
  refine g_cSI 12 X (st := []) mv_X8_69 dX8_isLine_12 [.long (Int32.toInt64 b1), .long (0 : Int64), .long (Int32.toInt64 (((1 : Int32) <<< (v_z_dots &&& (31 : Int32))) - (1 : Int32)))] (c_X8_in (Int32.toInt64 b1) (0 : Int64) (Int32.toInt64 (((1 : Int32) <<< (v_z_dots &&& (31 : Int32))) - (1 : Int32))) h) [] (fun u : Unit => (W_X8_isLine (g_env Γ) h0 o0 o1 o2 o3 o4 o5 o6 o7 o8 o9 o10 o11 o12 o13 o14 o15 o16 o17 o18 o19 o20 o21 o22 o23 o24 o25 o26 o27 o28 o29 o30 o31 o32 v_z_dots)) rfl ⟨(Nat.le_of_ble_eq_true rfl), (Nat.le_of_ble_eq_true rfl)⟩ ⟨rfl, rfl⟩ (Nat.le_of_ble_eq_true rfl) rfl (by decide) (fun _ => rfl) (fun _ => rfl) (fun r1 u h => ?_)
  have f2 := h.1; replace h := h.2
  exact ret 15 _ _ () dX8_isLine_15 f2 h

def W_X8_write (E : g_E) (h0 : Nat) (h1 : Nat) (o0 o1 o2 o3 o4 o5 o6 o7 o8 o9 o10 o11 o12 o13 o14 o15 o16 o17 o18 o19 o20 o21 o22 o23 o24 o25 o26 o27 o28 o29 o30 o31 : Value) (v_z_length : Int32) (v_text : Nat → Int32) : va_W := [(h0, .inr (8, [.ref h1, .int v_z_length, o0, o1, o2, o3, o4, o5, o6, o7, o8, o9, o10, o11, o12, o13, o14, o15, o16, o17, o18, o19, o20, o21, o22, o23, o24, o25, o26, o27, o28, o29, o30, o31])), (h1, .inl (E.2.1, 99, .inl v_text))]
def P_X8_write (b1 : Int32) (v_z_length : Int32) (v_text : Nat → Int32) (K : Int32 → Int32 → (Nat → Int32) → Prop) : Prop := (P_X8_in (Int32.toInt64 b1) (0 : Int64) (255 : Int64) (fun r1 => ((¬ r1 = (0 : Int32) → ((¬ v_z_length = (99 : Int32) → (vp_in v_z_length 99 ∧ K (v_z_length + (1 : Int32)) (v_z_length + (1 : Int32)) (upd v_text (Int32.toNatClampNeg v_z_length) b1))) ∧ (v_z_length = (99 : Int32) → K (-4 : Int32) v_z_length v_text))) ∧ (r1 = (0 : Int32) → K (-2 : Int32) v_z_length v_text))))
set_option maxHeartbeats 4000000 in
set_option maxRecDepth 100000 in
theorem c_X8_write {l : Launch} {E : g_E} (h0 : Nat) (h1 : Nat) (o0 o1 o2 o3 o4 o5 o6 o7 o8 o9 o10 o11 o12 o13 o14 o15 o16 o17 o18 o19 o20 o21 o22 o23 o24 o25 o26 o27 o28 o29 o30 o31 : Value) (v_z_length : Int32) (v_text : Nat → Int32) (b1 : Int32) {K : Int32 → Int32 → (Nat → Int32) → Prop} (h : P_X8_write b1 v_z_length v_text K) : g_CI l E yX8_write cX8_write 2 .int (g_Rm 1 25) [.ref h0, .int b1] (W_X8_write E h0 h1 o0 o1 o2 o3 o4 o5 o6 o7 o8 o9 o10 o11 o12 o13 o14 o15 o16 o17 o18 o19 o20 o21 o22 o23 o24 o25 o26 o27 o28 o29 o30 o31 v_z_length v_text) (fun r (u : Int32 × (Nat → Int32)) => K r u.1 u.2) (fun (u : Int32 × (Nat → Int32)) => (W_X8_write E h0 h1 o0 o1 o2 o3 o4 o5 o6 o7 o8 o9 o10 o11 o12 o13 o14 o15 o16 o17 o18 o19 o20 o21 o22 o23 o24 o25 o26 o27 o28 o29 o30 o31 u.1 u.2)) := by
  refine g_entI RX8 (by decide) rfl (Nat.le_of_ble_eq_true rfl) ?_
  intro Γ X hE hl ret
  subst hE
  subst hl
  unfold P_X8_write at h
  show g_G Γ (g_Rm 1 25) 2 0 [(0, .ref h0), (1, .int b1)] [] (W_X8_write (g_env Γ) h0 h1 o0 o1 o2 o3 o4 o5 o6 o7 o8 o9 o10 o11 o12 o13 o14 o15 o16 o17 o18 o19 o20 o21 o22 o23 o24 o25 o26 o27 o28 o29 o30 o31 v_z_length v_text)
  refine g_iload_n 0 X dX8_write_0 1 rfl rfl ?_
  refine g_i2l 1 X dX8_write_1 ?_
  refine g_lconst 2 X (0 : Int64) dX8_write_2 k_lc_0 ?_
  refine g_ldc2 3 X dX8_write_3 kc_X8_73 ?_
  refine g_cSI 6 X (st := []) mv_X8_69 dX8_write_6 [.long (Int32.toInt64 b1), .long (0 : Int64), .long (255 : Int64)] (c_X8_in (Int32.toInt64 b1) (0 : Int64) (255 : Int64) h) [] (fun u : Unit => (W_X8_write (g_env Γ) h0 h1 o0 o1 o2 o3 o4 o5 o6 o7 o8 o9 o10 o11 o12 o13 o14 o15 o16 o17 o18 o19 o20 o21 o22 o23 o24 o25 o26 o27 o28 o29 o30 o31 v_z_length v_text)) rfl ⟨(Nat.le_of_ble_eq_true rfl), (Nat.le_of_ble_eq_true rfl)⟩ ⟨rfl, rfl⟩ (Nat.le_of_ble_eq_true rfl) rfl (by decide) (fun _ => rfl) (fun _ => rfl) (fun r1 u h => ?_)
  refine g_if_ne 9 X 15 dX8_write_9 (by decide) (fun c => ?_) (fun c => ?_)
  · replace h := h.1 c
    refine g_aload_n 15 X dX8_write_15 0 rfl rfl ?_
    refine g_get 16 X fa_X8_75 dX8_write_16 0 rfl rfl ?_
    refine g_bipush 19 X (99 : Int32) dX8_write_19 k_bp_99 ?_
    refine g_icmp_ne 21 X 27 dX8_write_21 (by decide) (fun c => ?_) (fun c => ?_)
    · replace h := h.1 c
      refine g_aload_n 27 X dX8_write_27 0 rfl rfl ?_
      refine g_get 28 X fa_X8_7 dX8_write_28 0 rfl rfl ?_
      refine g_aload_n 31 X dX8_write_31 0 rfl rfl ?_
      refine g_get 32 X fa_X8_75 dX8_write_32 0 rfl rfl ?_
      refine g_iload_n 35 X dX8_write_35 1 rfl rfl ?_
      have f2 := h.1; replace h := h.2
      refine g_iast 36 X (W_X8_write (g_env Γ) h0 h1 o0 o1 o2 o3 o4 o5 o6 o7 o8 o9 o10 o11 o12 o13 o14 o15 o16 o17 o18 o19 o20 o21 o22 o23 o24 o25 o26 o27 o28 o29 o30 o31 v_z_length (upd v_text (Int32.toNatClampNeg v_z_length) b1)) dX8_write_36 1 rfl rfl f2 rfl ?_
      refine g_aload_n 37 X dX8_write_37 0 rfl rfl ?_
      refine g_dup 38 X dX8_write_38 rfl ?_
      refine g_get 39 X fa_X8_75 dX8_write_39 0 rfl rfl ?_
      refine g_iconst 42 X (1 : Int32) dX8_write_42 k_ic_1 ?_
      refine g_iadd 43 X dX8_write_43 ?_
      refine g_put 44 X (W_X8_write (g_env Γ) h0 h1 o0 o1 o2 o3 o4 o5 o6 o7 o8 o9 o10 o11 o12 o13 o14 o15 o16 o17 o18 o19 o20 o21 o22 o23 o24 o25 o26 o27 o28 o29 o30 o31 (v_z_length + (1 : Int32)) (upd v_text (Int32.toNatClampNeg v_z_length) b1)) fa_X8_75 pa_8_1 dX8_write_44 0 rfl rfl rfl (Nat.le_of_ble_eq_true rfl) rfl ?_
      refine g_aload_n 47 X dX8_write_47 0 rfl rfl ?_
      refine g_get 48 X fa_X8_75 dX8_write_48 0 rfl rfl ?_
      exact ret 51 _ _ ((v_z_length + (1 : Int32)), (upd v_text (Int32.toNatClampNeg v_z_length) b1)) dX8_write_51 (vp_nar_int _) h
    · replace h := h.2 c
      refine g_bipush 24 X (-4 : Int32) dX8_write_24 k_bp_m4 ?_
      exact ret 26 _ _ (v_z_length, v_text) dX8_write_26 (vp_nar_int _) h
  · replace h := h.2 c
    refine g_bipush 12 X (-2 : Int32) dX8_write_12 k_bp_m2 ?_
    exact ret 14 _ _ (v_z_length, v_text) dX8_write_14 (vp_nar_int _) h

def W_X8_wipe (E : g_E) (h0 : Nat) (o0 o1 o2 o3 o4 o5 o6 o7 o8 o9 o10 o11 o12 o13 o14 o15 o16 o17 o18 o19 o20 o21 o22 o23 o24 o25 o26 o27 o28 o29 o30 o31 o32 : Value) (v_z_length : Int32) : va_W := [(h0, .inr (8, [o0, .int v_z_length, o1, o2, o3, o4, o5, o6, o7, o8, o9, o10, o11, o12, o13, o14, o15, o16, o17, o18, o19, o20, o21, o22, o23, o24, o25, o26, o27, o28, o29, o30, o31, o32]))]
def P_X8_wipe (v_z_length : Int32) (K : Int32 → Int32 → Prop) : Prop := K v_z_length (0 : Int32)
set_option maxHeartbeats 4000000 in
set_option maxRecDepth 100000 in
theorem c_X8_wipe {l : Launch} {E : g_E} (h0 : Nat) (o0 o1 o2 o3 o4 o5 o6 o7 o8 o9 o10 o11 o12 o13 o14 o15 o16 o17 o18 o19 o20 o21 o22 o23 o24 o25 o26 o27 o28 o29 o30 o31 o32 : Value) (v_z_length : Int32) {K : Int32 → Int32 → Prop} (h : P_X8_wipe v_z_length K) : g_CI l E yX8_wipe cX8_wipe 2 .int (g_Rm 0 0) [.ref h0] (W_X8_wipe E h0 o0 o1 o2 o3 o4 o5 o6 o7 o8 o9 o10 o11 o12 o13 o14 o15 o16 o17 o18 o19 o20 o21 o22 o23 o24 o25 o26 o27 o28 o29 o30 o31 o32 v_z_length) (fun r (u : Int32) => K r u) (fun (u : Int32) => (W_X8_wipe E h0 o0 o1 o2 o3 o4 o5 o6 o7 o8 o9 o10 o11 o12 o13 o14 o15 o16 o17 o18 o19 o20 o21 o22 o23 o24 o25 o26 o27 o28 o29 o30 o31 o32 u)) := by
  refine g_entI RX8 (by decide) rfl (Nat.le_of_ble_eq_true rfl) ?_
  intro Γ X hE hl ret
  subst hE
  subst hl
  unfold P_X8_wipe at h
  show g_G Γ (g_Rm 0 0) 2 0 [(0, .ref h0)] [] (W_X8_wipe (g_env Γ) h0 o0 o1 o2 o3 o4 o5 o6 o7 o8 o9 o10 o11 o12 o13 o14 o15 o16 o17 o18 o19 o20 o21 o22 o23 o24 o25 o26 o27 o28 o29 o30 o31 o32 v_z_length)
  refine g_aload_n 0 X dX8_wipe_0 0 rfl rfl ?_
  refine g_get 1 X fa_X8_75 dX8_wipe_1 0 rfl rfl ?_
  refine g_istore_n 4 X [(1, .int v_z_length), (0, .ref h0)] dX8_wipe_4 rfl (Nat.le_of_ble_eq_true rfl) rfl ?_
  refine g_aload_n 5 X dX8_wipe_5 1 rfl rfl ?_
  refine g_iconst 6 X (0 : Int32) dX8_wipe_6 k_ic_0 ?_
  refine g_put 7 X (W_X8_wipe (g_env Γ) h0 o0 o1 o2 o3 o4 o5 o6 o7 o8 o9 o10 o11 o12 o13 o14 o15 o16 o17 o18 o19 o20 o21 o22 o23 o24 o25 o26 o27 o28 o29 o30 o31 o32 (0 : Int32)) fa_X8_75 pa_8_1 dX8_wipe_7 0 rfl rfl rfl (Nat.le_of_ble_eq_true rfl) rfl ?_
  refine g_iload_n 10 X dX8_wipe_10 0 rfl rfl ?_
  exact ret 11 _ _ ((0 : Int32)) dX8_wipe_11 (vp_nar_int _) h

def W_X8_takeHead (E : g_E) (h0 : Nat) (h1 : Nat) (h2 : Nat) (o0 o1 o2 o3 o4 o5 o6 o7 o8 o9 o10 o11 o12 o13 o14 o15 o16 o17 o18 o19 o20 o21 o22 o23 o24 o25 o26 o27 o28 : Value) (v_z_readDots : Int32) (v_z_readCool : Int32) (v_z_readPower : Int32) (v_readLevels : Nat → Int32) (v_readTable : Nat → Int32) : va_W := [(h0, .inr (8, [o0, o1, o2, o3, o4, o5, o6, o7, o8, o9, o10, o11, o12, o13, o14, o15, o16, o17, o18, o19, o20, o21, o22, o23, o24, .int v_z_readDots, .int v_z_readCool, .int v_z_readPower, .ref h1, .ref h2, o25, o26, o27, o28])), (h1, .inl (E.2.1, 3, .inl v_readLevels)), (h2, .inl (E.2.1, 5, .inl v_readTable))]
def P_X8_takeHead (b1 : Int32) (b2 : Int32) (v_z_readDots : Int32) (v_z_readCool : Int32) (v_z_readPower : Int32) (v_readLevels : Nat → Int32) (v_readTable : Nat → Int32) (K : Int32 → Int32 → Int32 → Int32 → (Nat → Int32) → (Nat → Int32) → Prop) : Prop := ((¬ b1 = (1 : Int32) → ((¬ b1 = (2 : Int32) → ((¬ b1 = (3 : Int32) → (((13 : Int32) ≤ b1 → (vp_in (b1 - (13 : Int32)) 5 ∧ ((¬ b1 = (13 : Int32) → (vp_in (b1 - (14 : Int32)) 5 ∧ (P_X8_in (Int32.toInt64 b2) (0 : Int64) (Int32.toInt64 ((upd v_readTable (Int32.toNatClampNeg (b1 - (13 : Int32))) b2) (Int32.toNatClampNeg (b1 - (14 : Int32))))) (fun r3 => (narrow .boolean (.int r3) = .int r3 ∧ K r3 v_z_readDots v_z_readCool v_z_readPower v_readLevels (upd v_readTable (Int32.toNatClampNeg (b1 - (13 : Int32))) b2)))))) ∧ (b1 = (13 : Int32) → (P_X8_in (Int32.toInt64 b2) (0 : Int64) (9 : Int64) (fun r5 => (narrow .boolean (.int r5) = .int r5 ∧ K r5 v_z_readDots v_z_readCool v_z_readPower v_readLevels (upd v_readTable (Int32.toNatClampNeg (b1 - (13 : Int32))) b2)))))))) ∧ (¬ (13 : Int32) ≤ b1 → ((¬ ((b1 - (4 : Int32)) - (b1 - (4 : Int32)) / (3 : Int32) * (3 : Int32)) = (0 : Int32) → (vp_in ((b1 - (4 : Int32)) / (3 : Int32)) 3 ∧ (P_X8_in (Int32.toInt64 b2) (0 : Int64) (9 : Int64) (fun r8 => (narrow .boolean (.int r8) = .int r8 ∧ K r8 v_z_readDots v_z_readCool v_z_readPower (upd v_readLevels (Int32.toNatClampNeg ((b1 - (4 : Int32)) / (3 : Int32))) (((10 : Int32) * (v_readLevels (Int32.toNatClampNeg ((b1 - (4 : Int32)) / (3 : Int32))))) + b2)) v_readTable))))) ∧ (((b1 - (4 : Int32)) - (b1 - (4 : Int32)) / (3 : Int32) * (3 : Int32)) = (0 : Int32) → (vp_in ((b1 - (4 : Int32)) / (3 : Int32)) 3 ∧ (P_X8_in (Int32.toInt64 b2) (0 : Int64) (9 : Int64) (fun r11 => (narrow .boolean (.int r11) = .int r11 ∧ K r11 v_z_readDots v_z_readCool v_z_readPower (upd v_readLevels (Int32.toNatClampNeg ((b1 - (4 : Int32)) / (3 : Int32))) b2) v_readTable))))))))) ∧ (b1 = (3 : Int32) → (P_X8_in (Int32.toInt64 b2) (1 : Int64) (8 : Int64) (fun r13 => (narrow .boolean (.int r13) = .int r13 ∧ K r13 v_z_readDots v_z_readCool b2 v_readLevels v_readTable)))))) ∧ (b1 = (2 : Int32) → (P_X8_in (Int32.toInt64 b2) (1 : Int64) (4 : Int64) (fun r15 => (narrow .boolean (.int r15) = .int r15 ∧ K r15 v_z_readDots b2 v_z_readPower v_readLevels v_readTable)))))) ∧ (b1 = (1 : Int32) → (P_X8_in (Int32.toInt64 b2) (1 : Int64) (8 : Int64) (fun r17 => (narrow .boolean (.int r17) = .int r17 ∧ K r17 b2 v_z_readCool v_z_readPower v_readLevels v_readTable)))))
set_option maxHeartbeats 4000000 in
set_option maxRecDepth 100000 in
theorem c_X8_takeHead {l : Launch} {E : g_E} (h0 : Nat) (h1 : Nat) (h2 : Nat) (o0 o1 o2 o3 o4 o5 o6 o7 o8 o9 o10 o11 o12 o13 o14 o15 o16 o17 o18 o19 o20 o21 o22 o23 o24 o25 o26 o27 o28 : Value) (v_z_readDots : Int32) (v_z_readCool : Int32) (v_z_readPower : Int32) (v_readLevels : Nat → Int32) (v_readTable : Nat → Int32) (b1 : Int32) (b2 : Int32) {K : Int32 → Int32 → Int32 → Int32 → (Nat → Int32) → (Nat → Int32) → Prop} (h : P_X8_takeHead b1 b2 v_z_readDots v_z_readCool v_z_readPower v_readLevels v_readTable K) : g_CI l E yX8_takeHead cX8_takeHead 4 .boolean (g_Rm 1 25) [.ref h0, .int b1, .int b2] (W_X8_takeHead E h0 h1 h2 o0 o1 o2 o3 o4 o5 o6 o7 o8 o9 o10 o11 o12 o13 o14 o15 o16 o17 o18 o19 o20 o21 o22 o23 o24 o25 o26 o27 o28 v_z_readDots v_z_readCool v_z_readPower v_readLevels v_readTable) (fun r (u : Int32 × Int32 × Int32 × (Nat → Int32) × (Nat → Int32)) => K r u.1 u.2.1 u.2.2.1 u.2.2.2.1 u.2.2.2.2) (fun (u : Int32 × Int32 × Int32 × (Nat → Int32) × (Nat → Int32)) => (W_X8_takeHead E h0 h1 h2 o0 o1 o2 o3 o4 o5 o6 o7 o8 o9 o10 o11 o12 o13 o14 o15 o16 o17 o18 o19 o20 o21 o22 o23 o24 o25 o26 o27 o28 u.1 u.2.1 u.2.2.1 u.2.2.2.1 u.2.2.2.2)) := by
  refine g_entI RX8 (by decide) rfl (Nat.le_of_ble_eq_true rfl) ?_
  intro Γ X hE hl ret
  subst hE
  subst hl
  unfold P_X8_takeHead at h
  show g_G Γ (g_Rm 1 25) 4 0 [(0, .ref h0), (1, .int b1), (2, .int b2)] [] (W_X8_takeHead (g_env Γ) h0 h1 h2 o0 o1 o2 o3 o4 o5 o6 o7 o8 o9 o10 o11 o12 o13 o14 o15 o16 o17 o18 o19 o20 o21 o22 o23 o24 o25 o26 o27 o28 v_z_readDots v_z_readCool v_z_readPower v_readLevels v_readTable)
  refine g_iload_n 0 X dX8_takeHead_0 1 rfl rfl ?_
  refine g_iconst 1 X (1 : Int32) dX8_takeHead_1 k_ic_1 ?_
  refine g_icmp_ne 2 X 20 dX8_takeHead_2 (by decide) (fun c => ?_) (fun c => ?_)
  · replace h := h.1 c
    refine g_iload_n 20 X dX8_takeHead_20 1 rfl rfl ?_
    refine g_iconst 21 X (2 : Int32) dX8_takeHead_21 k_ic_2 ?_
    refine g_icmp_ne 22 X 40 dX8_takeHead_22 (by decide) (fun c => ?_) (fun c => ?_)
    · replace h := h.1 c
      refine g_iload_n 40 X dX8_takeHead_40 1 rfl rfl ?_
      refine g_iconst 41 X (3 : Int32) dX8_takeHead_41 k_ic_3 ?_
      refine g_icmp_ne 42 X 60 dX8_takeHead_42 (by decide) (fun c => ?_) (fun c => ?_)
      · replace h := h.1 c
        refine g_iload_n 60 X dX8_takeHead_60 1 rfl rfl ?_
        refine g_bipush 61 X (13 : Int32) dX8_takeHead_61 k_bp_13 ?_
        refine g_icmp_ge 63 X 111 dX8_takeHead_63 (by decide) (fun c => ?_) (fun c => ?_)
        · replace h := h.1 c
          refine g_aload_n 111 X dX8_takeHead_111 0 rfl rfl ?_
          refine g_get 112 X fa_X8_53 dX8_takeHead_112 0 rfl rfl ?_
          refine g_iload_n 115 X dX8_takeHead_115 1 rfl rfl ?_
          refine g_bipush 116 X (13 : Int32) dX8_takeHead_116 k_bp_13 ?_
          refine g_isub 118 X dX8_takeHead_118 ?_
          refine g_iload_n 119 X dX8_takeHead_119 2 rfl rfl ?_
          have f1 := h.1; replace h := h.2
          refine g_iast 120 X (W_X8_takeHead (g_env Γ) h0 h1 h2 o0 o1 o2 o3 o4 o5 o6 o7 o8 o9 o10 o11 o12 o13 o14 o15 o16 o17 o18 o19 o20 o21 o22 o23 o24 o25 o26 o27 o28 v_z_readDots v_z_readCool v_z_readPower v_readLevels (upd v_readTable (Int32.toNatClampNeg (b1 - (13 : Int32))) b2)) dX8_takeHead_120 2 rfl rfl f1 rfl ?_
          refine g_iload_n 121 X dX8_takeHead_121 2 rfl rfl ?_
          refine g_i2l 122 X dX8_takeHead_122 ?_
          refine g_lconst 123 X (0 : Int64) dX8_takeHead_123 k_lc_0 ?_
          refine g_iload_n 124 X dX8_takeHead_124 1 rfl rfl ?_
          refine g_bipush 125 X (13 : Int32) dX8_takeHead_125 k_bp_13 ?_
          refine g_icmp_ne 127 X 136 dX8_takeHead_127 (by decide) (fun c => ?_) (fun c => ?_)
          · replace h := h.1 c
            refine g_aload_n 136 X dX8_takeHead_136 0 rfl rfl ?_
            refine g_get 137 X fa_X8_53 dX8_takeHead_137 0 rfl rfl ?_
            refine g_iload_n 140 X dX8_takeHead_140 1 rfl rfl ?_
            refine g_bipush 141 X (14 : Int32) dX8_takeHead_141 k_bp_14 ?_
            refine g_isub 143 X dX8_takeHead_143 ?_
            have f2 := h.1; replace h := h.2
            refine g_iald 144 X dX8_takeHead_144 2 rfl rfl f2 ?_
            refine g_i2l 145 X dX8_takeHead_145 ?_
            refine g_cSI 146 X (st := []) mv_X8_69 dX8_takeHead_146 [.long (Int32.toInt64 b2), .long (0 : Int64), .long (Int32.toInt64 ((upd v_readTable (Int32.toNatClampNeg (b1 - (13 : Int32))) b2) (Int32.toNatClampNeg (b1 - (14 : Int32)))))] (c_X8_in (Int32.toInt64 b2) (0 : Int64) (Int32.toInt64 ((upd v_readTable (Int32.toNatClampNeg (b1 - (13 : Int32))) b2) (Int32.toNatClampNeg (b1 - (14 : Int32))))) h) [] (fun u : Unit => (W_X8_takeHead (g_env Γ) h0 h1 h2 o0 o1 o2 o3 o4 o5 o6 o7 o8 o9 o10 o11 o12 o13 o14 o15 o16 o17 o18 o19 o20 o21 o22 o23 o24 o25 o26 o27 o28 v_z_readDots v_z_readCool v_z_readPower v_readLevels (upd v_readTable (Int32.toNatClampNeg (b1 - (13 : Int32))) b2))) rfl ⟨(Nat.le_of_ble_eq_true rfl), (Nat.le_of_ble_eq_true rfl)⟩ ⟨rfl, rfl⟩ (Nat.le_of_ble_eq_true rfl) rfl (by decide) (fun _ => rfl) (fun _ => rfl) (fun r3 u h => ?_)
            have f4 := h.1; replace h := h.2
            exact ret 149 _ _ (v_z_readDots, v_z_readCool, v_z_readPower, v_readLevels, (upd v_readTable (Int32.toNatClampNeg (b1 - (13 : Int32))) b2)) dX8_takeHead_149 f4 h
          · replace h := h.2 c
            refine g_ldc2 130 X dX8_takeHead_130 kc_X8_91 ?_
            refine g_goto 133 X 146 dX8_takeHead_133 (by decide) ?_
            refine g_cSI 146 X (st := []) mv_X8_69 dX8_takeHead_146 [.long (Int32.toInt64 b2), .long (0 : Int64), .long (9 : Int64)] (c_X8_in (Int32.toInt64 b2) (0 : Int64) (9 : Int64) h) [] (fun u : Unit => (W_X8_takeHead (g_env Γ) h0 h1 h2 o0 o1 o2 o3 o4 o5 o6 o7 o8 o9 o10 o11 o12 o13 o14 o15 o16 o17 o18 o19 o20 o21 o22 o23 o24 o25 o26 o27 o28 v_z_readDots v_z_readCool v_z_readPower v_readLevels (upd v_readTable (Int32.toNatClampNeg (b1 - (13 : Int32))) b2))) rfl ⟨(Nat.le_of_ble_eq_true rfl), (Nat.le_of_ble_eq_true rfl)⟩ ⟨rfl, rfl⟩ (Nat.le_of_ble_eq_true rfl) rfl (by decide) (fun _ => rfl) (fun _ => rfl) (fun r5 u h => ?_)
            have f6 := h.1; replace h := h.2
            exact ret 149 _ _ (v_z_readDots, v_z_readCool, v_z_readPower, v_readLevels, (upd v_readTable (Int32.toNatClampNeg (b1 - (13 : Int32))) b2)) dX8_takeHead_149 f6 h
        · replace h := h.2 c
          refine g_iload_n 66 X dX8_takeHead_66 1 rfl rfl ?_
          refine g_iconst 67 X (4 : Int32) dX8_takeHead_67 k_ic_4 ?_
          refine g_isub 68 X dX8_takeHead_68 ?_
          refine g_iconst 69 X (3 : Int32) dX8_takeHead_69 k_ic_3 ?_
          refine g_idiv 70 X dX8_takeHead_70 (by decide) ?_
          refine g_istore_n 71 X [(3, .int ((b1 - (4 : Int32)) / (3 : Int32))), (0, .ref h0), (1, .int b1), (2, .int b2)] dX8_takeHead_71 rfl (Nat.le_of_ble_eq_true rfl) rfl ?_
          refine g_aload_n 72 X dX8_takeHead_72 1 rfl rfl ?_
          refine g_get 73 X fa_X8_50 dX8_takeHead_73 0 rfl rfl ?_
          refine g_iload_n 76 X dX8_takeHead_76 0 rfl rfl ?_
          refine g_iload_n 77 X dX8_takeHead_77 2 rfl rfl ?_
          refine g_iconst 78 X (4 : Int32) dX8_takeHead_78 k_ic_4 ?_
          refine g_isub 79 X dX8_takeHead_79 ?_
          refine g_iconst 80 X (3 : Int32) dX8_takeHead_80 k_ic_3 ?_
          refine g_irem 81 X dX8_takeHead_81 (by decide) ?_
          refine g_if_ne 82 X 89 dX8_takeHead_82 (by decide) (fun c => ?_) (fun c => ?_)
          · replace h := h.1 c
            refine g_bipush 89 X (10 : Int32) dX8_takeHead_89 k_bp_10 ?_
            refine g_aload_n 91 X dX8_takeHead_91 1 rfl rfl ?_
            refine g_get 92 X fa_X8_50 dX8_takeHead_92 0 rfl rfl ?_
            refine g_iload_n 95 X dX8_takeHead_95 0 rfl rfl ?_
            have f7 := h.1; replace h := h.2
            refine g_iald 96 X dX8_takeHead_96 1 rfl rfl f7 ?_
            refine g_imul 97 X dX8_takeHead_97 ?_
            refine g_iload_n 98 X dX8_takeHead_98 3 rfl rfl ?_
            refine g_iadd 99 X dX8_takeHead_99 ?_
            refine g_iast 100 X (W_X8_takeHead (g_env Γ) h0 h1 h2 o0 o1 o2 o3 o4 o5 o6 o7 o8 o9 o10 o11 o12 o13 o14 o15 o16 o17 o18 o19 o20 o21 o22 o23 o24 o25 o26 o27 o28 v_z_readDots v_z_readCool v_z_readPower (upd v_readLevels (Int32.toNatClampNeg ((b1 - (4 : Int32)) / (3 : Int32))) (((10 : Int32) * (v_readLevels (Int32.toNatClampNeg ((b1 - (4 : Int32)) / (3 : Int32))))) + b2)) v_readTable) dX8_takeHead_100 1 rfl rfl f7 rfl ?_
            refine g_iload_n 101 X dX8_takeHead_101 3 rfl rfl ?_
            refine g_i2l 102 X dX8_takeHead_102 ?_
            refine g_lconst 103 X (0 : Int64) dX8_takeHead_103 k_lc_0 ?_
            refine g_ldc2 104 X dX8_takeHead_104 kc_X8_91 ?_
            refine g_cSI 107 X (st := []) mv_X8_69 dX8_takeHead_107 [.long (Int32.toInt64 b2), .long (0 : Int64), .long (9 : Int64)] (c_X8_in (Int32.toInt64 b2) (0 : Int64) (9 : Int64) h) [] (fun u : Unit => (W_X8_takeHead (g_env Γ) h0 h1 h2 o0 o1 o2 o3 o4 o5 o6 o7 o8 o9 o10 o11 o12 o13 o14 o15 o16 o17 o18 o19 o20 o21 o22 o23 o24 o25 o26 o27 o28 v_z_readDots v_z_readCool v_z_readPower (upd v_readLevels (Int32.toNatClampNeg ((b1 - (4 : Int32)) / (3 : Int32))) (((10 : Int32) * (v_readLevels (Int32.toNatClampNeg ((b1 - (4 : Int32)) / (3 : Int32))))) + b2)) v_readTable)) rfl ⟨(Nat.le_of_ble_eq_true rfl), (Nat.le_of_ble_eq_true rfl)⟩ ⟨rfl, rfl⟩ (Nat.le_of_ble_eq_true rfl) rfl (by decide) (fun _ => rfl) (fun _ => rfl) (fun r8 u h => ?_)
            have f9 := h.1; replace h := h.2
            exact ret 110 _ _ (v_z_readDots, v_z_readCool, v_z_readPower, (upd v_readLevels (Int32.toNatClampNeg ((b1 - (4 : Int32)) / (3 : Int32))) (((10 : Int32) * (v_readLevels (Int32.toNatClampNeg ((b1 - (4 : Int32)) / (3 : Int32))))) + b2)), v_readTable) dX8_takeHead_110 f9 h
          · replace h := h.2 c
            refine g_iload_n 85 X dX8_takeHead_85 3 rfl rfl ?_
            refine g_goto 86 X 100 dX8_takeHead_86 (by decide) ?_
            have f10 := h.1; replace h := h.2
            refine g_iast 100 X (W_X8_takeHead (g_env Γ) h0 h1 h2 o0 o1 o2 o3 o4 o5 o6 o7 o8 o9 o10 o11 o12 o13 o14 o15 o16 o17 o18 o19 o20 o21 o22 o23 o24 o25 o26 o27 o28 v_z_readDots v_z_readCool v_z_readPower (upd v_readLevels (Int32.toNatClampNeg ((b1 - (4 : Int32)) / (3 : Int32))) b2) v_readTable) dX8_takeHead_100 1 rfl rfl f10 rfl ?_
            refine g_iload_n 101 X dX8_takeHead_101 3 rfl rfl ?_
            refine g_i2l 102 X dX8_takeHead_102 ?_
            refine g_lconst 103 X (0 : Int64) dX8_takeHead_103 k_lc_0 ?_
            refine g_ldc2 104 X dX8_takeHead_104 kc_X8_91 ?_
            refine g_cSI 107 X (st := []) mv_X8_69 dX8_takeHead_107 [.long (Int32.toInt64 b2), .long (0 : Int64), .long (9 : Int64)] (c_X8_in (Int32.toInt64 b2) (0 : Int64) (9 : Int64) h) [] (fun u : Unit => (W_X8_takeHead (g_env Γ) h0 h1 h2 o0 o1 o2 o3 o4 o5 o6 o7 o8 o9 o10 o11 o12 o13 o14 o15 o16 o17 o18 o19 o20 o21 o22 o23 o24 o25 o26 o27 o28 v_z_readDots v_z_readCool v_z_readPower (upd v_readLevels (Int32.toNatClampNeg ((b1 - (4 : Int32)) / (3 : Int32))) b2) v_readTable)) rfl ⟨(Nat.le_of_ble_eq_true rfl), (Nat.le_of_ble_eq_true rfl)⟩ ⟨rfl, rfl⟩ (Nat.le_of_ble_eq_true rfl) rfl (by decide) (fun _ => rfl) (fun _ => rfl) (fun r11 u h => ?_)
            have f12 := h.1; replace h := h.2
            exact ret 110 _ _ (v_z_readDots, v_z_readCool, v_z_readPower, (upd v_readLevels (Int32.toNatClampNeg ((b1 - (4 : Int32)) / (3 : Int32))) b2), v_readTable) dX8_takeHead_110 f12 h
      · replace h := h.2 c
        refine g_aload_n 45 X dX8_takeHead_45 0 rfl rfl ?_
        refine g_iload_n 46 X dX8_takeHead_46 2 rfl rfl ?_
        refine g_put 47 X (W_X8_takeHead (g_env Γ) h0 h1 h2 o0 o1 o2 o3 o4 o5 o6 o7 o8 o9 o10 o11 o12 o13 o14 o15 o16 o17 o18 o19 o20 o21 o22 o23 o24 o25 o26 o27 o28 v_z_readDots v_z_readCool b2 v_readLevels v_readTable) fa_X8_88 pa_8_27 dX8_takeHead_47 0 rfl rfl rfl (Nat.le_of_ble_eq_true rfl) rfl ?_
        refine g_iload_n 50 X dX8_takeHead_50 2 rfl rfl ?_
        refine g_i2l 51 X dX8_takeHead_51 ?_
        refine g_lconst 52 X (1 : Int64) dX8_takeHead_52 k_lc_1 ?_
        refine g_ldc2 53 X dX8_takeHead_53 kc_X8_81 ?_
        refine g_cSI 56 X (st := []) mv_X8_69 dX8_takeHead_56 [.long (Int32.toInt64 b2), .long (1 : Int64), .long (8 : Int64)] (c_X8_in (Int32.toInt64 b2) (1 : Int64) (8 : Int64) h) [] (fun u : Unit => (W_X8_takeHead (g_env Γ) h0 h1 h2 o0 o1 o2 o3 o4 o5 o6 o7 o8 o9 o10 o11 o12 o13 o14 o15 o16 o17 o18 o19 o20 o21 o22 o23 o24 o25 o26 o27 o28 v_z_readDots v_z_readCool b2 v_readLevels v_readTable)) rfl ⟨(Nat.le_of_ble_eq_true rfl), (Nat.le_of_ble_eq_true rfl)⟩ ⟨rfl, rfl⟩ (Nat.le_of_ble_eq_true rfl) rfl (by decide) (fun _ => rfl) (fun _ => rfl) (fun r13 u h => ?_)
        have f14 := h.1; replace h := h.2
        exact ret 59 _ _ (v_z_readDots, v_z_readCool, b2, v_readLevels, v_readTable) dX8_takeHead_59 f14 h
    · replace h := h.2 c
      refine g_aload_n 25 X dX8_takeHead_25 0 rfl rfl ?_
      refine g_iload_n 26 X dX8_takeHead_26 2 rfl rfl ?_
      refine g_put 27 X (W_X8_takeHead (g_env Γ) h0 h1 h2 o0 o1 o2 o3 o4 o5 o6 o7 o8 o9 o10 o11 o12 o13 o14 o15 o16 o17 o18 o19 o20 o21 o22 o23 o24 o25 o26 o27 o28 v_z_readDots b2 v_z_readPower v_readLevels v_readTable) fa_X8_83 pa_8_26 dX8_takeHead_27 0 rfl rfl rfl (Nat.le_of_ble_eq_true rfl) rfl ?_
      refine g_iload_n 30 X dX8_takeHead_30 2 rfl rfl ?_
      refine g_i2l 31 X dX8_takeHead_31 ?_
      refine g_lconst 32 X (1 : Int64) dX8_takeHead_32 k_lc_1 ?_
      refine g_ldc2 33 X dX8_takeHead_33 kc_X8_86 ?_
      refine g_cSI 36 X (st := []) mv_X8_69 dX8_takeHead_36 [.long (Int32.toInt64 b2), .long (1 : Int64), .long (4 : Int64)] (c_X8_in (Int32.toInt64 b2) (1 : Int64) (4 : Int64) h) [] (fun u : Unit => (W_X8_takeHead (g_env Γ) h0 h1 h2 o0 o1 o2 o3 o4 o5 o6 o7 o8 o9 o10 o11 o12 o13 o14 o15 o16 o17 o18 o19 o20 o21 o22 o23 o24 o25 o26 o27 o28 v_z_readDots b2 v_z_readPower v_readLevels v_readTable)) rfl ⟨(Nat.le_of_ble_eq_true rfl), (Nat.le_of_ble_eq_true rfl)⟩ ⟨rfl, rfl⟩ (Nat.le_of_ble_eq_true rfl) rfl (by decide) (fun _ => rfl) (fun _ => rfl) (fun r15 u h => ?_)
      have f16 := h.1; replace h := h.2
      exact ret 39 _ _ (v_z_readDots, b2, v_z_readPower, v_readLevels, v_readTable) dX8_takeHead_39 f16 h
  · replace h := h.2 c
    refine g_aload_n 5 X dX8_takeHead_5 0 rfl rfl ?_
    refine g_iload_n 6 X dX8_takeHead_6 2 rfl rfl ?_
    refine g_put 7 X (W_X8_takeHead (g_env Γ) h0 h1 h2 o0 o1 o2 o3 o4 o5 o6 o7 o8 o9 o10 o11 o12 o13 o14 o15 o16 o17 o18 o19 o20 o21 o22 o23 o24 o25 o26 o27 o28 b2 v_z_readCool v_z_readPower v_readLevels v_readTable) fa_X8_78 pa_8_25 dX8_takeHead_7 0 rfl rfl rfl (Nat.le_of_ble_eq_true rfl) rfl ?_
    refine g_iload_n 10 X dX8_takeHead_10 2 rfl rfl ?_
    refine g_i2l 11 X dX8_takeHead_11 ?_
    refine g_lconst 12 X (1 : Int64) dX8_takeHead_12 k_lc_1 ?_
    refine g_ldc2 13 X dX8_takeHead_13 kc_X8_81 ?_
    refine g_cSI 16 X (st := []) mv_X8_69 dX8_takeHead_16 [.long (Int32.toInt64 b2), .long (1 : Int64), .long (8 : Int64)] (c_X8_in (Int32.toInt64 b2) (1 : Int64) (8 : Int64) h) [] (fun u : Unit => (W_X8_takeHead (g_env Γ) h0 h1 h2 o0 o1 o2 o3 o4 o5 o6 o7 o8 o9 o10 o11 o12 o13 o14 o15 o16 o17 o18 o19 o20 o21 o22 o23 o24 o25 o26 o27 o28 b2 v_z_readCool v_z_readPower v_readLevels v_readTable)) rfl ⟨(Nat.le_of_ble_eq_true rfl), (Nat.le_of_ble_eq_true rfl)⟩ ⟨rfl, rfl⟩ (Nat.le_of_ble_eq_true rfl) rfl (by decide) (fun _ => rfl) (fun _ => rfl) (fun r17 u h => ?_)
    have f18 := h.1; replace h := h.2
    exact ret 19 _ _ (b2, v_z_readCool, v_z_readPower, v_readLevels, v_readTable) dX8_takeHead_19 f18 h

def W_X8_takeOfLine (E : g_E) (h0 : Nat) (h1 : Nat) (o0 o1 o2 o3 o4 o5 o6 o7 o8 o9 o10 o11 o12 o13 o14 o15 o16 o17 o18 o19 o20 o21 o22 o23 o24 o25 o26 o27 o28 o29 : Value) (v_z_readDots : Int32) (v_z_readMany : Int32) (v_z_lineAt : Int32) (v_readLines : Nat → Int32) : va_W := [(h0, .inr (8, [o0, o1, o2, o3, o4, o5, o6, o7, o8, o9, o10, o11, o12, o13, o14, o15, o16, o17, o18, o19, o20, o21, o22, o23, o24, .int v_z_readDots, o25, o26, o27, o28, .int v_z_readMany, .ref h1, o29, .int v_z_lineAt])), (h1, .inl (E.2.1, 8, .inl v_readLines))]
def P_X8_takeOfLine (b1 : Int32) (v_z_readDots : Int32) (v_z_readMany : Int32) (v_z_lineAt : Int32) (v_readLines : Nat → Int32) (K : Int32 → Int32 → Int32 → (Nat → Int32) → Prop) : Prop := (((0 : Int32) ≤ v_z_lineAt → (vp_in v_z_readMany 8 ∧ ((¬ b1 = (111 : Int32) → ((¬ (v_z_lineAt + (1 : Int32)) = v_z_readDots → ((b1 = (111 : Int32) → K (1 : Int32) v_z_readMany (v_z_lineAt + (1 : Int32)) (upd v_readLines (Int32.toNatClampNeg v_z_readMany) ((v_readLines (Int32.toNatClampNeg v_z_readMany)) ||| (0 : Int32)))) ∧ (¬ b1 = (111 : Int32) → ((¬ b1 = (45 : Int32) → K (0 : Int32) v_z_readMany (v_z_lineAt + (1 : Int32)) (upd v_readLines (Int32.toNatClampNeg v_z_readMany) ((v_readLines (Int32.toNatClampNeg v_z_readMany)) ||| (0 : Int32)))) ∧ (b1 = (45 : Int32) → K (1 : Int32) v_z_readMany (v_z_lineAt + (1 : Int32)) (upd v_readLines (Int32.toNatClampNeg v_z_readMany) ((v_readLines (Int32.toNatClampNeg v_z_readMany)) ||| (0 : Int32)))))))) ∧ ((v_z_lineAt + (1 : Int32)) = v_z_readDots → ((b1 = (111 : Int32) → K (1 : Int32) (v_z_readMany + (1 : Int32)) (-1 : Int32) (upd v_readLines (Int32.toNatClampNeg v_z_readMany) ((v_readLines (Int32.toNatClampNeg v_z_readMany)) ||| (0 : Int32)))) ∧ (¬ b1 = (111 : Int32) → ((¬ b1 = (45 : Int32) → K (0 : Int32) (v_z_readMany + (1 : Int32)) (-1 : Int32) (upd v_readLines (Int32.toNatClampNeg v_z_readMany) ((v_readLines (Int32.toNatClampNeg v_z_readMany)) ||| (0 : Int32)))) ∧ (b1 = (45 : Int32) → K (1 : Int32) (v_z_readMany + (1 : Int32)) (-1 : Int32) (upd v_readLines (Int32.toNatClampNeg v_z_readMany) ((v_readLines (Int32.toNatClampNeg v_z_readMany)) ||| (0 : Int32)))))))))) ∧ (b1 = (111 : Int32) → ((¬ (v_z_lineAt + (1 : Int32)) = v_z_readDots → ((b1 = (111 : Int32) → K (1 : Int32) v_z_readMany (v_z_lineAt + (1 : Int32)) (upd v_readLines (Int32.toNatClampNeg v_z_readMany) ((v_readLines (Int32.toNatClampNeg v_z_readMany)) ||| ((1 : Int32) <<< (v_z_lineAt &&& (31 : Int32)))))) ∧ (¬ b1 = (111 : Int32) → ((¬ b1 = (45 : Int32) → K (0 : Int32) v_z_readMany (v_z_lineAt + (1 : Int32)) (upd v_readLines (Int32.toNatClampNeg v_z_readMany) ((v_readLines (Int32.toNatClampNeg v_z_readMany)) ||| ((1 : Int32) <<< (v_z_lineAt &&& (31 : Int32)))))) ∧ (b1 = (45 : Int32) → K (1 : Int32) v_z_readMany (v_z_lineAt + (1 : Int32)) (upd v_readLines (Int32.toNatClampNeg v_z_readMany) ((v_readLines (Int32.toNatClampNeg v_z_readMany)) ||| ((1 : Int32) <<< (v_z_lineAt &&& (31 : Int32)))))))))) ∧ ((v_z_lineAt + (1 : Int32)) = v_z_readDots → ((b1 = (111 : Int32) → K (1 : Int32) (v_z_readMany + (1 : Int32)) (-1 : Int32) (upd v_readLines (Int32.toNatClampNeg v_z_readMany) ((v_readLines (Int32.toNatClampNeg v_z_readMany)) ||| ((1 : Int32) <<< (v_z_lineAt &&& (31 : Int32)))))) ∧ (¬ b1 = (111 : Int32) → ((¬ b1 = (45 : Int32) → K (0 : Int32) (v_z_readMany + (1 : Int32)) (-1 : Int32) (upd v_readLines (Int32.toNatClampNeg v_z_readMany) ((v_readLines (Int32.toNatClampNeg v_z_readMany)) ||| ((1 : Int32) <<< (v_z_lineAt &&& (31 : Int32)))))) ∧ (b1 = (45 : Int32) → K (1 : Int32) (v_z_readMany + (1 : Int32)) (-1 : Int32) (upd v_readLines (Int32.toNatClampNeg v_z_readMany) ((v_readLines (Int32.toNatClampNeg v_z_readMany)) ||| ((1 : Int32) <<< (v_z_lineAt &&& (31 : Int32))))))))))))))) ∧ (¬ (0 : Int32) ≤ v_z_lineAt → ((¬ b1 = (108 : Int32) → K (0 : Int32) v_z_readMany (0 : Int32) v_readLines) ∧ (b1 = (108 : Int32) → ((¬ v_z_readMany = (8 : Int32) → (vp_in v_z_readMany 8 ∧ K (1 : Int32) v_z_readMany (0 : Int32) (upd v_readLines (Int32.toNatClampNeg v_z_readMany) (0 : Int32)))) ∧ (v_z_readMany = (8 : Int32) → K (0 : Int32) v_z_readMany (0 : Int32) v_readLines))))))
set_option maxHeartbeats 4000000 in
set_option maxRecDepth 100000 in
theorem c_X8_takeOfLine {l : Launch} {E : g_E} (h0 : Nat) (h1 : Nat) (o0 o1 o2 o3 o4 o5 o6 o7 o8 o9 o10 o11 o12 o13 o14 o15 o16 o17 o18 o19 o20 o21 o22 o23 o24 o25 o26 o27 o28 o29 : Value) (v_z_readDots : Int32) (v_z_readMany : Int32) (v_z_lineAt : Int32) (v_readLines : Nat → Int32) (b1 : Int32) {K : Int32 → Int32 → Int32 → (Nat → Int32) → Prop} (h : P_X8_takeOfLine b1 v_z_readDots v_z_readMany v_z_lineAt v_readLines K) : g_CI l E yX8_takeOfLine cX8_takeOfLine 2 .boolean (g_Rm 0 0) [.ref h0, .int b1] (W_X8_takeOfLine E h0 h1 o0 o1 o2 o3 o4 o5 o6 o7 o8 o9 o10 o11 o12 o13 o14 o15 o16 o17 o18 o19 o20 o21 o22 o23 o24 o25 o26 o27 o28 o29 v_z_readDots v_z_readMany v_z_lineAt v_readLines) (fun r (u : Int32 × Int32 × (Nat → Int32)) => K r u.1 u.2.1 u.2.2) (fun (u : Int32 × Int32 × (Nat → Int32)) => (W_X8_takeOfLine E h0 h1 o0 o1 o2 o3 o4 o5 o6 o7 o8 o9 o10 o11 o12 o13 o14 o15 o16 o17 o18 o19 o20 o21 o22 o23 o24 o25 o26 o27 o28 o29 v_z_readDots u.1 u.2.1 u.2.2)) := by
  refine g_entI RX8 (by decide) rfl (Nat.le_of_ble_eq_true rfl) ?_
  intro Γ X hE hl ret
  subst hE
  subst hl
  unfold P_X8_takeOfLine at h
  show g_G Γ (g_Rm 0 0) 2 0 [(0, .ref h0), (1, .int b1)] [] (W_X8_takeOfLine (g_env Γ) h0 h1 o0 o1 o2 o3 o4 o5 o6 o7 o8 o9 o10 o11 o12 o13 o14 o15 o16 o17 o18 o19 o20 o21 o22 o23 o24 o25 o26 o27 o28 o29 v_z_readDots v_z_readMany v_z_lineAt v_readLines)
  refine g_aload_n 0 X dX8_takeOfLine_0 0 rfl rfl ?_
  refine g_get 1 X fa_X8_93 dX8_takeOfLine_1 0 rfl rfl ?_
  refine g_if_ge 4 X 41 dX8_takeOfLine_4 (by decide) (fun c => ?_) (fun c => ?_)
  · replace h := h.1 c
    refine g_aload_n 41 X dX8_takeOfLine_41 0 rfl rfl ?_
    refine g_get 42 X fa_X8_56 dX8_takeOfLine_42 0 rfl rfl ?_
    refine g_aload_n 45 X dX8_takeOfLine_45 0 rfl rfl ?_
    refine g_get 46 X fa_X8_96 dX8_takeOfLine_46 0 rfl rfl ?_
    refine g_dup2 49 X dX8_takeOfLine_49 rfl rfl ?_
    have f1 := h.1; replace h := h.2
    refine g_iald 50 X dX8_takeOfLine_50 1 rfl rfl f1 ?_
    refine g_iload_n 51 X dX8_takeOfLine_51 1 rfl rfl ?_
    refine g_bipush 52 X (111 : Int32) dX8_takeOfLine_52 k_bp_111 ?_
    refine g_icmp_ne 54 X 66 dX8_takeOfLine_54 (by decide) (fun c => ?_) (fun c => ?_)
    · replace h := h.1 c
      refine g_iconst 66 X (0 : Int32) dX8_takeOfLine_66 k_ic_0 ?_
      refine g_ior 67 X dX8_takeOfLine_67 ?_
      refine g_iast 68 X (W_X8_takeOfLine (g_env Γ) h0 h1 o0 o1 o2 o3 o4 o5 o6 o7 o8 o9 o10 o11 o12 o13 o14 o15 o16 o17 o18 o19 o20 o21 o22 o23 o24 o25 o26 o27 o28 o29 v_z_readDots v_z_readMany v_z_lineAt (upd v_readLines (Int32.toNatClampNeg v_z_readMany) ((v_readLines (Int32.toNatClampNeg v_z_readMany)) ||| (0 : Int32)))) dX8_takeOfLine_68 1 rfl rfl f1 rfl ?_
      refine g_aload_n 69 X dX8_takeOfLine_69 0 rfl rfl ?_
      refine g_dup 70 X dX8_takeOfLine_70 rfl ?_
      refine g_get 71 X fa_X8_93 dX8_takeOfLine_71 0 rfl rfl ?_
      refine g_iconst 74 X (1 : Int32) dX8_takeOfLine_74 k_ic_1 ?_
      refine g_iadd 75 X dX8_takeOfLine_75 ?_
      refine g_put 76 X (W_X8_takeOfLine (g_env Γ) h0 h1 o0 o1 o2 o3 o4 o5 o6 o7 o8 o9 o10 o11 o12 o13 o14 o15 o16 o17 o18 o19 o20 o21 o22 o23 o24 o25 o26 o27 o28 o29 v_z_readDots v_z_readMany (v_z_lineAt + (1 : Int32)) (upd v_readLines (Int32.toNatClampNeg v_z_readMany) ((v_readLines (Int32.toNatClampNeg v_z_readMany)) ||| (0 : Int32)))) fa_X8_93 pa_8_33 dX8_takeOfLine_76 0 rfl rfl rfl (Nat.le_of_ble_eq_true rfl) rfl ?_
      refine g_aload_n 79 X dX8_takeOfLine_79 0 rfl rfl ?_
      refine g_get 80 X fa_X8_93 dX8_takeOfLine_80 0 rfl rfl ?_
      refine g_aload_n 83 X dX8_takeOfLine_83 0 rfl rfl ?_
      refine g_get 84 X fa_X8_78 dX8_takeOfLine_84 0 rfl rfl ?_
      refine g_icmp_ne 87 X 105 dX8_takeOfLine_87 (by decide) (fun c => ?_) (fun c => ?_)
      · replace h := h.1 c
        refine g_iload_n 105 X dX8_takeOfLine_105 1 rfl rfl ?_
        refine g_bipush 106 X (111 : Int32) dX8_takeOfLine_106 k_bp_111 ?_
        refine g_icmp_eq 108 X 117 dX8_takeOfLine_108 (by decide) (fun c => ?_) (fun c => ?_)
        · replace h := h.1 c
          refine g_iconst 117 X (1 : Int32) dX8_takeOfLine_117 k_ic_1 ?_
          refine g_goto 118 X 122 dX8_takeOfLine_118 (by decide) ?_
          exact ret 122 _ _ (v_z_readMany, (v_z_lineAt + (1 : Int32)), (upd v_readLines (Int32.toNatClampNeg v_z_readMany) ((v_readLines (Int32.toNatClampNeg v_z_readMany)) ||| (0 : Int32)))) dX8_takeOfLine_122 (by decide) h
        · replace h := h.2 c
          refine g_iload_n 111 X dX8_takeOfLine_111 1 rfl rfl ?_
          refine g_bipush 112 X (45 : Int32) dX8_takeOfLine_112 k_bp_45 ?_
          refine g_icmp_ne 114 X 121 dX8_takeOfLine_114 (by decide) (fun c => ?_) (fun c => ?_)
          · replace h := h.1 c
            refine g_iconst 121 X (0 : Int32) dX8_takeOfLine_121 k_ic_0 ?_
            exact ret 122 _ _ (v_z_readMany, (v_z_lineAt + (1 : Int32)), (upd v_readLines (Int32.toNatClampNeg v_z_readMany) ((v_readLines (Int32.toNatClampNeg v_z_readMany)) ||| (0 : Int32)))) dX8_takeOfLine_122 (by decide) h
          · replace h := h.2 c
            refine g_iconst 117 X (1 : Int32) dX8_takeOfLine_117 k_ic_1 ?_
            refine g_goto 118 X 122 dX8_takeOfLine_118 (by decide) ?_
            exact ret 122 _ _ (v_z_readMany, (v_z_lineAt + (1 : Int32)), (upd v_readLines (Int32.toNatClampNeg v_z_readMany) ((v_readLines (Int32.toNatClampNeg v_z_readMany)) ||| (0 : Int32)))) dX8_takeOfLine_122 (by decide) h
      · replace h := h.2 c
        refine g_aload_n 90 X dX8_takeOfLine_90 0 rfl rfl ?_
        refine g_iconst 91 X (-1 : Int32) dX8_takeOfLine_91 k_ic_m1 ?_
        refine g_put 92 X (W_X8_takeOfLine (g_env Γ) h0 h1 o0 o1 o2 o3 o4 o5 o6 o7 o8 o9 o10 o11 o12 o13 o14 o15 o16 o17 o18 o19 o20 o21 o22 o23 o24 o25 o26 o27 o28 o29 v_z_readDots v_z_readMany (-1 : Int32) (upd v_readLines (Int32.toNatClampNeg v_z_readMany) ((v_readLines (Int32.toNatClampNeg v_z_readMany)) ||| (0 : Int32)))) fa_X8_93 pa_8_33 dX8_takeOfLine_92 0 rfl rfl rfl (Nat.le_of_ble_eq_true rfl) rfl ?_
        refine g_aload_n 95 X dX8_takeOfLine_95 0 rfl rfl ?_
        refine g_dup 96 X dX8_takeOfLine_96 rfl ?_
        refine g_get 97 X fa_X8_96 dX8_takeOfLine_97 0 rfl rfl ?_
        refine g_iconst 100 X (1 : Int32) dX8_takeOfLine_100 k_ic_1 ?_
        refine g_iadd 101 X dX8_takeOfLine_101 ?_
        refine g_put 102 X (W_X8_takeOfLine (g_env Γ) h0 h1 o0 o1 o2 o3 o4 o5 o6 o7 o8 o9 o10 o11 o12 o13 o14 o15 o16 o17 o18 o19 o20 o21 o22 o23 o24 o25 o26 o27 o28 o29 v_z_readDots (v_z_readMany + (1 : Int32)) (-1 : Int32) (upd v_readLines (Int32.toNatClampNeg v_z_readMany) ((v_readLines (Int32.toNatClampNeg v_z_readMany)) ||| (0 : Int32)))) fa_X8_96 pa_8_30 dX8_takeOfLine_102 0 rfl rfl rfl (Nat.le_of_ble_eq_true rfl) rfl ?_
        refine g_iload_n 105 X dX8_takeOfLine_105 1 rfl rfl ?_
        refine g_bipush 106 X (111 : Int32) dX8_takeOfLine_106 k_bp_111 ?_
        refine g_icmp_eq 108 X 117 dX8_takeOfLine_108 (by decide) (fun c => ?_) (fun c => ?_)
        · replace h := h.1 c
          refine g_iconst 117 X (1 : Int32) dX8_takeOfLine_117 k_ic_1 ?_
          refine g_goto 118 X 122 dX8_takeOfLine_118 (by decide) ?_
          exact ret 122 _ _ ((v_z_readMany + (1 : Int32)), (-1 : Int32), (upd v_readLines (Int32.toNatClampNeg v_z_readMany) ((v_readLines (Int32.toNatClampNeg v_z_readMany)) ||| (0 : Int32)))) dX8_takeOfLine_122 (by decide) h
        · replace h := h.2 c
          refine g_iload_n 111 X dX8_takeOfLine_111 1 rfl rfl ?_
          refine g_bipush 112 X (45 : Int32) dX8_takeOfLine_112 k_bp_45 ?_
          refine g_icmp_ne 114 X 121 dX8_takeOfLine_114 (by decide) (fun c => ?_) (fun c => ?_)
          · replace h := h.1 c
            refine g_iconst 121 X (0 : Int32) dX8_takeOfLine_121 k_ic_0 ?_
            exact ret 122 _ _ ((v_z_readMany + (1 : Int32)), (-1 : Int32), (upd v_readLines (Int32.toNatClampNeg v_z_readMany) ((v_readLines (Int32.toNatClampNeg v_z_readMany)) ||| (0 : Int32)))) dX8_takeOfLine_122 (by decide) h
          · replace h := h.2 c
            refine g_iconst 117 X (1 : Int32) dX8_takeOfLine_117 k_ic_1 ?_
            refine g_goto 118 X 122 dX8_takeOfLine_118 (by decide) ?_
            exact ret 122 _ _ ((v_z_readMany + (1 : Int32)), (-1 : Int32), (upd v_readLines (Int32.toNatClampNeg v_z_readMany) ((v_readLines (Int32.toNatClampNeg v_z_readMany)) ||| (0 : Int32)))) dX8_takeOfLine_122 (by decide) h
    · replace h := h.2 c
      refine g_iconst 57 X (1 : Int32) dX8_takeOfLine_57 k_ic_1 ?_
      refine g_aload_n 58 X dX8_takeOfLine_58 0 rfl rfl ?_
      refine g_get 59 X fa_X8_93 dX8_takeOfLine_59 0 rfl rfl ?_
      refine g_ishl 62 X dX8_takeOfLine_62 ?_
      refine g_goto 63 X 67 dX8_takeOfLine_63 (by decide) ?_
      refine g_ior 67 X dX8_takeOfLine_67 ?_
      refine g_iast 68 X (W_X8_takeOfLine (g_env Γ) h0 h1 o0 o1 o2 o3 o4 o5 o6 o7 o8 o9 o10 o11 o12 o13 o14 o15 o16 o17 o18 o19 o20 o21 o22 o23 o24 o25 o26 o27 o28 o29 v_z_readDots v_z_readMany v_z_lineAt (upd v_readLines (Int32.toNatClampNeg v_z_readMany) ((v_readLines (Int32.toNatClampNeg v_z_readMany)) ||| ((1 : Int32) <<< (v_z_lineAt &&& (31 : Int32)))))) dX8_takeOfLine_68 1 rfl rfl f1 rfl ?_
      refine g_aload_n 69 X dX8_takeOfLine_69 0 rfl rfl ?_
      refine g_dup 70 X dX8_takeOfLine_70 rfl ?_
      refine g_get 71 X fa_X8_93 dX8_takeOfLine_71 0 rfl rfl ?_
      refine g_iconst 74 X (1 : Int32) dX8_takeOfLine_74 k_ic_1 ?_
      refine g_iadd 75 X dX8_takeOfLine_75 ?_
      refine g_put 76 X (W_X8_takeOfLine (g_env Γ) h0 h1 o0 o1 o2 o3 o4 o5 o6 o7 o8 o9 o10 o11 o12 o13 o14 o15 o16 o17 o18 o19 o20 o21 o22 o23 o24 o25 o26 o27 o28 o29 v_z_readDots v_z_readMany (v_z_lineAt + (1 : Int32)) (upd v_readLines (Int32.toNatClampNeg v_z_readMany) ((v_readLines (Int32.toNatClampNeg v_z_readMany)) ||| ((1 : Int32) <<< (v_z_lineAt &&& (31 : Int32)))))) fa_X8_93 pa_8_33 dX8_takeOfLine_76 0 rfl rfl rfl (Nat.le_of_ble_eq_true rfl) rfl ?_
      refine g_aload_n 79 X dX8_takeOfLine_79 0 rfl rfl ?_
      refine g_get 80 X fa_X8_93 dX8_takeOfLine_80 0 rfl rfl ?_
      refine g_aload_n 83 X dX8_takeOfLine_83 0 rfl rfl ?_
      refine g_get 84 X fa_X8_78 dX8_takeOfLine_84 0 rfl rfl ?_
      refine g_icmp_ne 87 X 105 dX8_takeOfLine_87 (by decide) (fun c => ?_) (fun c => ?_)
      · replace h := h.1 c
        refine g_iload_n 105 X dX8_takeOfLine_105 1 rfl rfl ?_
        refine g_bipush 106 X (111 : Int32) dX8_takeOfLine_106 k_bp_111 ?_
        refine g_icmp_eq 108 X 117 dX8_takeOfLine_108 (by decide) (fun c => ?_) (fun c => ?_)
        · replace h := h.1 c
          refine g_iconst 117 X (1 : Int32) dX8_takeOfLine_117 k_ic_1 ?_
          refine g_goto 118 X 122 dX8_takeOfLine_118 (by decide) ?_
          exact ret 122 _ _ (v_z_readMany, (v_z_lineAt + (1 : Int32)), (upd v_readLines (Int32.toNatClampNeg v_z_readMany) ((v_readLines (Int32.toNatClampNeg v_z_readMany)) ||| ((1 : Int32) <<< (v_z_lineAt &&& (31 : Int32)))))) dX8_takeOfLine_122 (by decide) h
        · replace h := h.2 c
          refine g_iload_n 111 X dX8_takeOfLine_111 1 rfl rfl ?_
          refine g_bipush 112 X (45 : Int32) dX8_takeOfLine_112 k_bp_45 ?_
          refine g_icmp_ne 114 X 121 dX8_takeOfLine_114 (by decide) (fun c => ?_) (fun c => ?_)
          · replace h := h.1 c
            refine g_iconst 121 X (0 : Int32) dX8_takeOfLine_121 k_ic_0 ?_
            exact ret 122 _ _ (v_z_readMany, (v_z_lineAt + (1 : Int32)), (upd v_readLines (Int32.toNatClampNeg v_z_readMany) ((v_readLines (Int32.toNatClampNeg v_z_readMany)) ||| ((1 : Int32) <<< (v_z_lineAt &&& (31 : Int32)))))) dX8_takeOfLine_122 (by decide) h
          · replace h := h.2 c
            refine g_iconst 117 X (1 : Int32) dX8_takeOfLine_117 k_ic_1 ?_
            refine g_goto 118 X 122 dX8_takeOfLine_118 (by decide) ?_
            exact ret 122 _ _ (v_z_readMany, (v_z_lineAt + (1 : Int32)), (upd v_readLines (Int32.toNatClampNeg v_z_readMany) ((v_readLines (Int32.toNatClampNeg v_z_readMany)) ||| ((1 : Int32) <<< (v_z_lineAt &&& (31 : Int32)))))) dX8_takeOfLine_122 (by decide) h
      · replace h := h.2 c
        refine g_aload_n 90 X dX8_takeOfLine_90 0 rfl rfl ?_
        refine g_iconst 91 X (-1 : Int32) dX8_takeOfLine_91 k_ic_m1 ?_
        refine g_put 92 X (W_X8_takeOfLine (g_env Γ) h0 h1 o0 o1 o2 o3 o4 o5 o6 o7 o8 o9 o10 o11 o12 o13 o14 o15 o16 o17 o18 o19 o20 o21 o22 o23 o24 o25 o26 o27 o28 o29 v_z_readDots v_z_readMany (-1 : Int32) (upd v_readLines (Int32.toNatClampNeg v_z_readMany) ((v_readLines (Int32.toNatClampNeg v_z_readMany)) ||| ((1 : Int32) <<< (v_z_lineAt &&& (31 : Int32)))))) fa_X8_93 pa_8_33 dX8_takeOfLine_92 0 rfl rfl rfl (Nat.le_of_ble_eq_true rfl) rfl ?_
        refine g_aload_n 95 X dX8_takeOfLine_95 0 rfl rfl ?_
        refine g_dup 96 X dX8_takeOfLine_96 rfl ?_
        refine g_get 97 X fa_X8_96 dX8_takeOfLine_97 0 rfl rfl ?_
        refine g_iconst 100 X (1 : Int32) dX8_takeOfLine_100 k_ic_1 ?_
        refine g_iadd 101 X dX8_takeOfLine_101 ?_
        refine g_put 102 X (W_X8_takeOfLine (g_env Γ) h0 h1 o0 o1 o2 o3 o4 o5 o6 o7 o8 o9 o10 o11 o12 o13 o14 o15 o16 o17 o18 o19 o20 o21 o22 o23 o24 o25 o26 o27 o28 o29 v_z_readDots (v_z_readMany + (1 : Int32)) (-1 : Int32) (upd v_readLines (Int32.toNatClampNeg v_z_readMany) ((v_readLines (Int32.toNatClampNeg v_z_readMany)) ||| ((1 : Int32) <<< (v_z_lineAt &&& (31 : Int32)))))) fa_X8_96 pa_8_30 dX8_takeOfLine_102 0 rfl rfl rfl (Nat.le_of_ble_eq_true rfl) rfl ?_
        refine g_iload_n 105 X dX8_takeOfLine_105 1 rfl rfl ?_
        refine g_bipush 106 X (111 : Int32) dX8_takeOfLine_106 k_bp_111 ?_
        refine g_icmp_eq 108 X 117 dX8_takeOfLine_108 (by decide) (fun c => ?_) (fun c => ?_)
        · replace h := h.1 c
          refine g_iconst 117 X (1 : Int32) dX8_takeOfLine_117 k_ic_1 ?_
          refine g_goto 118 X 122 dX8_takeOfLine_118 (by decide) ?_
          exact ret 122 _ _ ((v_z_readMany + (1 : Int32)), (-1 : Int32), (upd v_readLines (Int32.toNatClampNeg v_z_readMany) ((v_readLines (Int32.toNatClampNeg v_z_readMany)) ||| ((1 : Int32) <<< (v_z_lineAt &&& (31 : Int32)))))) dX8_takeOfLine_122 (by decide) h
        · replace h := h.2 c
          refine g_iload_n 111 X dX8_takeOfLine_111 1 rfl rfl ?_
          refine g_bipush 112 X (45 : Int32) dX8_takeOfLine_112 k_bp_45 ?_
          refine g_icmp_ne 114 X 121 dX8_takeOfLine_114 (by decide) (fun c => ?_) (fun c => ?_)
          · replace h := h.1 c
            refine g_iconst 121 X (0 : Int32) dX8_takeOfLine_121 k_ic_0 ?_
            exact ret 122 _ _ ((v_z_readMany + (1 : Int32)), (-1 : Int32), (upd v_readLines (Int32.toNatClampNeg v_z_readMany) ((v_readLines (Int32.toNatClampNeg v_z_readMany)) ||| ((1 : Int32) <<< (v_z_lineAt &&& (31 : Int32)))))) dX8_takeOfLine_122 (by decide) h
          · replace h := h.2 c
            refine g_iconst 117 X (1 : Int32) dX8_takeOfLine_117 k_ic_1 ?_
            refine g_goto 118 X 122 dX8_takeOfLine_118 (by decide) ?_
            exact ret 122 _ _ ((v_z_readMany + (1 : Int32)), (-1 : Int32), (upd v_readLines (Int32.toNatClampNeg v_z_readMany) ((v_readLines (Int32.toNatClampNeg v_z_readMany)) ||| ((1 : Int32) <<< (v_z_lineAt &&& (31 : Int32)))))) dX8_takeOfLine_122 (by decide) h
  · replace h := h.2 c
    refine g_aload_n 7 X dX8_takeOfLine_7 0 rfl rfl ?_
    refine g_iconst 8 X (0 : Int32) dX8_takeOfLine_8 k_ic_0 ?_
    refine g_put 9 X (W_X8_takeOfLine (g_env Γ) h0 h1 o0 o1 o2 o3 o4 o5 o6 o7 o8 o9 o10 o11 o12 o13 o14 o15 o16 o17 o18 o19 o20 o21 o22 o23 o24 o25 o26 o27 o28 o29 v_z_readDots v_z_readMany (0 : Int32) v_readLines) fa_X8_93 pa_8_33 dX8_takeOfLine_9 0 rfl rfl rfl (Nat.le_of_ble_eq_true rfl) rfl ?_
    refine g_iload_n 12 X dX8_takeOfLine_12 1 rfl rfl ?_
    refine g_bipush 13 X (108 : Int32) dX8_takeOfLine_13 k_bp_108 ?_
    refine g_icmp_ne 15 X 27 dX8_takeOfLine_15 (by decide) (fun c => ?_) (fun c => ?_)
    · replace h := h.1 c
      refine g_iconst 27 X (0 : Int32) dX8_takeOfLine_27 k_ic_0 ?_
      exact ret 28 _ _ (v_z_readMany, (0 : Int32), v_readLines) dX8_takeOfLine_28 (by decide) h
    · replace h := h.2 c
      refine g_aload_n 18 X dX8_takeOfLine_18 0 rfl rfl ?_
      refine g_get 19 X fa_X8_96 dX8_takeOfLine_19 0 rfl rfl ?_
      refine g_bipush 22 X (8 : Int32) dX8_takeOfLine_22 k_bp_8 ?_
      refine g_icmp_ne 24 X 29 dX8_takeOfLine_24 (by decide) (fun c => ?_) (fun c => ?_)
      · replace h := h.1 c
        refine g_aload_n 29 X dX8_takeOfLine_29 0 rfl rfl ?_
        refine g_get 30 X fa_X8_56 dX8_takeOfLine_30 0 rfl rfl ?_
        refine g_aload_n 33 X dX8_takeOfLine_33 0 rfl rfl ?_
        refine g_get 34 X fa_X8_96 dX8_takeOfLine_34 0 rfl rfl ?_
        refine g_iconst 37 X (0 : Int32) dX8_takeOfLine_37 k_ic_0 ?_
        have f2 := h.1; replace h := h.2
        refine g_iast 38 X (W_X8_takeOfLine (g_env Γ) h0 h1 o0 o1 o2 o3 o4 o5 o6 o7 o8 o9 o10 o11 o12 o13 o14 o15 o16 o17 o18 o19 o20 o21 o22 o23 o24 o25 o26 o27 o28 o29 v_z_readDots v_z_readMany (0 : Int32) (upd v_readLines (Int32.toNatClampNeg v_z_readMany) (0 : Int32))) dX8_takeOfLine_38 1 rfl rfl f2 rfl ?_
        refine g_iconst 39 X (1 : Int32) dX8_takeOfLine_39 k_ic_1 ?_
        exact ret 40 _ _ (v_z_readMany, (0 : Int32), (upd v_readLines (Int32.toNatClampNeg v_z_readMany) (0 : Int32))) dX8_takeOfLine_40 (by decide) h
      · replace h := h.2 c
        refine g_iconst 27 X (0 : Int32) dX8_takeOfLine_27 k_ic_0 ?_
        exact ret 28 _ _ (v_z_readMany, (0 : Int32), v_readLines) dX8_takeOfLine_28 (by decide) h

def W_X8_readText (E : g_E) (h0 : Nat) (h1 : Nat) (h2 : Nat) (h3 : Nat) (h4 : Nat) (o0 o1 o2 o3 o4 o5 o6 o7 o8 o9 o10 o11 o12 o13 o14 o15 o16 o17 o18 o19 o20 o21 o22 o23 : Value) (v_z_length : Int32) (v_z_readDots : Int32) (v_z_readCool : Int32) (v_z_readPower : Int32) (v_z_readMany : Int32) (v_z_lineAt : Int32) (v_text : Nat → Int32) (v_readLevels : Nat → Int32) (v_readTable : Nat → Int32) (v_readLines : Nat → Int32) : va_W := [(h0, .inr (8, [.ref h1, .int v_z_length, o0, o1, o2, o3, o4, o5, o6, o7, o8, o9, o10, o11, o12, o13, o14, o15, o16, o17, o18, o19, o20, o21, o22, .int v_z_readDots, .int v_z_readCool, .int v_z_readPower, .ref h2, .ref h3, .int v_z_readMany, .ref h4, o23, .int v_z_lineAt])), (h1, .inl (E.2.1, 99, .inl v_text)), (h2, .inl (E.2.1, 3, .inl v_readLevels)), (h3, .inl (E.2.1, 5, .inl v_readTable)), (h4, .inl (E.2.1, 8, .inl v_readLines))]
def P_X8_readText_L32 (v_z_length : Int32) (v_text : Nat → Int32) (C79 : Int32 → Int32 → Int32 → Int32 → Int32 → Int32 → (Nat → Int32) → (Nat → Int32) → (Nat → Int32) → Prop) (C87 : Int32 → Int32 → Int32 → Int32 → Int32 → (Nat → Int32) → (Nat → Int32) → (Nat → Int32) → Prop) : Nat → Int32 → Int32 → Int32 → Int32 → Int32 → Int32 → (Nat → Int32) → (Nat → Int32) → (Nat → Int32) → Prop
  | 0, _, _, _, _, _, _, _, _, _ => False
  | n + 1, x1, v_z_readDots, v_z_readCool, v_z_readPower, v_z_readMany, v_z_lineAt, v_readLevels, v_readTable, v_readLines => ((v_z_length ≤ x1 → C87 v_z_readDots v_z_readCool v_z_readPower v_z_readMany v_z_lineAt v_readLevels v_readTable v_readLines) ∧ (¬ v_z_length ≤ x1 → (((18 : Int32) ≤ x1 → (vp_in x1 99 ∧ (P_X8_takeOfLine (v_text (Int32.toNatClampNeg x1)) v_z_readDots v_z_readMany v_z_lineAt v_readLines (fun r2 v_z_readMany_3 v_z_lineAt_4 v_readLines_5 => ((¬ r2 = (0 : Int32) → P_X8_readText_L32 v_z_length v_text C79 C87 n (x1 + (1 : Int32)) v_z_readDots v_z_readCool v_z_readPower v_z_readMany_3 v_z_lineAt_4 v_readLevels v_readTable v_readLines_5) ∧ (r2 = (0 : Int32) → C79 x1 v_z_readDots v_z_readCool v_z_readPower v_z_readMany_3 v_z_lineAt_4 v_readLevels v_readTable v_readLines_5)))))) ∧ (¬ (18 : Int32) ≤ x1 → (vp_in x1 99 ∧ (P_X8_takeHead x1 ((v_text (Int32.toNatClampNeg x1)) - (48 : Int32)) v_z_readDots v_z_readCool v_z_readPower v_readLevels v_readTable (fun r7 v_z_readDots_8 v_z_readCool_9 v_z_readPower_10 v_readLevels_11 v_readTable_12 => ((r7 = (0 : Int32) → C79 x1 v_z_readDots_8 v_z_readCool_9 v_z_readPower_10 v_z_readMany v_z_lineAt v_readLevels_11 v_readTable_12 v_readLines) ∧ (¬ r7 = (0 : Int32) → P_X8_readText_L32 v_z_length v_text C79 C87 n (x1 + (1 : Int32)) v_z_readDots_8 v_z_readCool_9 v_z_readPower_10 v_z_readMany v_z_lineAt v_readLevels_11 v_readTable_12 v_readLines)))))))))
def P_X8_readText (v_z_length : Int32) (v_z_readDots : Int32) (v_z_readCool : Int32) (v_z_readPower : Int32) (v_z_readMany : Int32) (v_z_lineAt : Int32) (v_text : Nat → Int32) (v_readLevels : Nat → Int32) (v_readTable : Nat → Int32) (v_readLines : Nat → Int32) (K : Int32 → Int32 → Int32 → Int32 → Int32 → Int32 → (Nat → Int32) → (Nat → Int32) → (Nat → Int32) → Prop) : Prop := ((v_z_length = (0 : Int32) → K (0 : Int32) v_z_readDots v_z_readCool v_z_readPower (0 : Int32) (-1 : Int32) v_readLevels v_readTable v_readLines) ∧ (¬ v_z_length = (0 : Int32) → (((v_text (Int32.toNatClampNeg (0 : Int32))) = (72 : Int32) → (∃ ne : Nat, P_X8_readText_L32 v_z_length v_text (fun x25 v_z_readDots_26 v_z_readCool_27 v_z_readPower_28 v_z_readMany_29 v_z_lineAt_30 v_readLevels_31 v_readTable_32 v_readLines_33 => K x25 v_z_readDots_26 v_z_readCool_27 v_z_readPower_28 v_z_readMany_29 v_z_lineAt_30 v_readLevels_31 v_readTable_32 v_readLines_33) (fun v_z_readDots_34 v_z_readCool_35 v_z_readPower_36 v_z_readMany_37 v_z_lineAt_38 v_readLevels_39 v_readTable_40 v_readLines_41 => ((v_z_length ≤ (17 : Int32) → K v_z_length v_z_readDots_34 v_z_readCool_35 v_z_readPower_36 v_z_readMany_37 v_z_lineAt_38 v_readLevels_39 v_readTable_40 v_readLines_41) ∧ (¬ v_z_length ≤ (17 : Int32) → (((0 : Int32) ≤ v_z_lineAt_38 → K v_z_length v_z_readDots_34 v_z_readCool_35 v_z_readPower_36 v_z_readMany_37 v_z_lineAt_38 v_readLevels_39 v_readTable_40 v_readLines_41) ∧ (¬ (0 : Int32) ≤ v_z_lineAt_38 → K (-9 : Int32) v_z_readDots_34 v_z_readCool_35 v_z_readPower_36 v_z_readMany_37 v_z_lineAt_38 v_readLevels_39 v_readTable_40 v_readLines_41))))) ne (1 : Int32) v_z_readDots v_z_readCool v_z_readPower (0 : Int32) (-1 : Int32) v_readLevels v_readTable v_readLines)) ∧ (¬ (v_text (Int32.toNatClampNeg (0 : Int32))) = (72 : Int32) → K (0 : Int32) v_z_readDots v_z_readCool v_z_readPower (0 : Int32) (-1 : Int32) v_readLevels v_readTable v_readLines))))
set_option maxHeartbeats 4000000 in
set_option maxRecDepth 100000 in
theorem l_X8_readText_32 {Γ : g_C} (X : g_X Γ (g_Rm 2 48) cX8_readText RX8 2) (h0 : Nat) (h1 : Nat) (h2 : Nat) (h3 : Nat) (h4 : Nat) (o0 o1 o2 o3 o4 o5 o6 o7 o8 o9 o10 o11 o12 o13 o14 o15 o16 o17 o18 o19 o20 o21 o22 o23 : Value) (v_z_length : Int32) (v_text : Nat → Int32) {C79 : Int32 → Int32 → Int32 → Int32 → Int32 → Int32 → (Nat → Int32) → (Nat → Int32) → (Nat → Int32) → Prop} {C87 : Int32 → Int32 → Int32 → Int32 → Int32 → (Nat → Int32) → (Nat → Int32) → (Nat → Int32) → Prop} (hC79 : ∀ (x1 : Int32) (v_z_readDots : Int32) (v_z_readCool : Int32) (v_z_readPower : Int32) (v_z_readMany : Int32) (v_z_lineAt : Int32) (v_readLevels : Nat → Int32) (v_readTable : Nat → Int32) (v_readLines : Nat → Int32), C79 x1 v_z_readDots v_z_readCool v_z_readPower v_z_readMany v_z_lineAt v_readLevels v_readTable v_readLines → g_G Γ (g_Rm 2 48) 2 79 [(1, .int x1)] [] (W_X8_readText (g_env Γ) h0 h1 h2 h3 h4 o0 o1 o2 o3 o4 o5 o6 o7 o8 o9 o10 o11 o12 o13 o14 o15 o16 o17 o18 o19 o20 o21 o22 o23 v_z_length v_z_readDots v_z_readCool v_z_readPower v_z_readMany v_z_lineAt v_text v_readLevels v_readTable v_readLines)) (hC87 : ∀ (v_z_readDots : Int32) (v_z_readCool : Int32) (v_z_readPower : Int32) (v_z_readMany : Int32) (v_z_lineAt : Int32) (v_readLevels : Nat → Int32) (v_readTable : Nat → Int32) (v_readLines : Nat → Int32), C87 v_z_readDots v_z_readCool v_z_readPower v_z_readMany v_z_lineAt v_readLevels v_readTable v_readLines → g_G Γ (g_Rm 2 48) 2 87 [(0, .ref h0)] [] (W_X8_readText (g_env Γ) h0 h1 h2 h3 h4 o0 o1 o2 o3 o4 o5 o6 o7 o8 o9 o10 o11 o12 o13 o14 o15 o16 o17 o18 o19 o20 o21 o22 o23 v_z_length v_z_readDots v_z_readCool v_z_readPower v_z_readMany v_z_lineAt v_text v_readLevels v_readTable v_readLines)) : ∀ (n : Nat) (x1 : Int32) (v_z_readDots : Int32) (v_z_readCool : Int32) (v_z_readPower : Int32) (v_z_readMany : Int32) (v_z_lineAt : Int32) (v_readLevels : Nat → Int32) (v_readTable : Nat → Int32) (v_readLines : Nat → Int32), P_X8_readText_L32 v_z_length v_text C79 C87 n x1 v_z_readDots v_z_readCool v_z_readPower v_z_readMany v_z_lineAt v_readLevels v_readTable v_readLines → g_G Γ (g_Rm 2 48) 2 32 [(0, .ref h0), (1, .int x1)] [] (W_X8_readText (g_env Γ) h0 h1 h2 h3 h4 o0 o1 o2 o3 o4 o5 o6 o7 o8 o9 o10 o11 o12 o13 o14 o15 o16 o17 o18 o19 o20 o21 o22 o23 v_z_length v_z_readDots v_z_readCool v_z_readPower v_z_readMany v_z_lineAt v_text v_readLevels v_readTable v_readLines) := by
  intro n
  induction n with
  | zero => intro x1 v_z_readDots v_z_readCool v_z_readPower v_z_readMany v_z_lineAt v_readLevels v_readTable v_readLines h; exact False.elim h
  | succ n ih =>
    intro x1 v_z_readDots v_z_readCool v_z_readPower v_z_readMany v_z_lineAt v_readLevels v_readTable v_readLines h
    unfold P_X8_readText_L32 at h
    refine g_iload_n 32 X dX8_readText_32 1 rfl rfl ?_
    refine g_aload_n 33 X dX8_readText_33 0 rfl rfl ?_
    refine g_get 34 X fa_X8_75 dX8_readText_34 0 rfl rfl ?_
    refine g_icmp_ge 37 X 87 dX8_readText_37 (by decide) (fun c => ?_) (fun c => ?_)
    · replace h := h.1 c
      refine g_sub [(0, .ref h0)] [0] rfl ?_
      exact hC87 v_z_readDots v_z_readCool v_z_readPower v_z_readMany v_z_lineAt v_readLevels v_readTable v_readLines h
    · replace h := h.2 c
      refine g_iload_n 40 X dX8_readText_40 1 rfl rfl ?_
      refine g_bipush 41 X (18 : Int32) dX8_readText_41 k_bp_18 ?_
      refine g_icmp_ge 43 X 66 dX8_readText_43 (by decide) (fun c => ?_) (fun c => ?_)
      · replace h := h.1 c
        refine g_aload_n 66 X dX8_readText_66 0 rfl rfl ?_
        refine g_aload_n 67 X dX8_readText_67 0 rfl rfl ?_
        refine g_get 68 X fa_X8_7 dX8_readText_68 0 rfl rfl ?_
        refine g_iload_n 71 X dX8_readText_71 1 rfl rfl ?_
        have f13 := h.1; replace h := h.2
        refine g_iald 72 X dX8_readText_72 1 rfl rfl f13 ?_
        refine g_cVI 73 X (st := []) mv_X8_103 dX8_readText_73 h0 8 [.int (v_text (Int32.toNatClampNeg x1))] (c_X8_takeOfLine h0 h4 (.ref h1) (.int v_z_length) o0 o1 o2 o3 o4 o5 o6 o7 o8 o9 o10 o11 o12 o13 o14 o15 o16 o17 o18 o19 o20 o21 o22 (.int v_z_readCool) (.int v_z_readPower) (.ref h2) (.ref h3) o23 v_z_readDots v_z_readMany v_z_lineAt v_readLines (v_text (Int32.toNatClampNeg x1)) h) [0, 4] (fun u : Int32 × Int32 × (Nat → Int32) => (W_X8_readText (g_env Γ) h0 h1 h2 h3 h4 o0 o1 o2 o3 o4 o5 o6 o7 o8 o9 o10 o11 o12 o13 o14 o15 o16 o17 o18 o19 o20 o21 o22 o23 v_z_length v_z_readDots v_z_readCool v_z_readPower u.1 u.2.1 v_text v_readLevels v_readTable u.2.2)) rfl ⟨(Nat.le_of_ble_eq_true rfl), (Nat.le_of_ble_eq_true rfl)⟩ ⟨rfl, rfl⟩ (Nat.le_of_ble_eq_true rfl) rfl rfl rfl (by decide) (fun _ => rfl) (fun _ => rfl) (fun r14 u h => ?_)
        obtain ⟨v_z_readMany_15, v_z_lineAt_16, v_readLines_17⟩ := u
        dsimp only at h ⊢
        refine g_if_ne 76 X 81 dX8_readText_76 (by decide) (fun c => ?_) (fun c => ?_)
        · replace h := h.1 c
          refine g_iinc 81 X (x1 + (1 : Int32)) [(1, .int (x1 + (1 : Int32))), (0, .ref h0)] dX8_readText_81 1 rfl (k_ii_1 _) (Nat.le_of_ble_eq_true rfl) rfl ?_
          refine g_goto 84 X 32 dX8_readText_84 (by decide) ?_
          refine g_sub [(0, .ref h0), (1, .int (x1 + (1 : Int32)))] [1, 0] rfl ?_
          exact ih (x1 + (1 : Int32)) v_z_readDots v_z_readCool v_z_readPower v_z_readMany_15 v_z_lineAt_16 v_readLevels v_readTable v_readLines_17 h
        · replace h := h.2 c
          refine g_sub [(1, .int x1)] [1] rfl ?_
          exact hC79 x1 v_z_readDots v_z_readCool v_z_readPower v_z_readMany_15 v_z_lineAt_16 v_readLevels v_readTable v_readLines_17 h
      · replace h := h.2 c
        refine g_aload_n 46 X dX8_readText_46 0 rfl rfl ?_
        refine g_iload_n 47 X dX8_readText_47 1 rfl rfl ?_
        refine g_aload_n 48 X dX8_readText_48 0 rfl rfl ?_
        refine g_get 49 X fa_X8_7 dX8_readText_49 0 rfl rfl ?_
        refine g_iload_n 52 X dX8_readText_52 1 rfl rfl ?_
        have f18 := h.1; replace h := h.2
        refine g_iald 53 X dX8_readText_53 1 rfl rfl f18 ?_
        refine g_bipush 54 X (48 : Int32) dX8_readText_54 k_bp_48 ?_
        refine g_isub 56 X dX8_readText_56 ?_
        refine g_cVI 57 X (st := []) mv_X8_99 dX8_readText_57 h0 8 [.int x1, .int ((v_text (Int32.toNatClampNeg x1)) - (48 : Int32))] (c_X8_takeHead h0 h2 h3 (.ref h1) (.int v_z_length) o0 o1 o2 o3 o4 o5 o6 o7 o8 o9 o10 o11 o12 o13 o14 o15 o16 o17 o18 o19 o20 o21 o22 (.int v_z_readMany) (.ref h4) o23 (.int v_z_lineAt) v_z_readDots v_z_readCool v_z_readPower v_readLevels v_readTable x1 ((v_text (Int32.toNatClampNeg x1)) - (48 : Int32)) h) [0, 2, 3] (fun u : Int32 × Int32 × Int32 × (Nat → Int32) × (Nat → Int32) => (W_X8_readText (g_env Γ) h0 h1 h2 h3 h4 o0 o1 o2 o3 o4 o5 o6 o7 o8 o9 o10 o11 o12 o13 o14 o15 o16 o17 o18 o19 o20 o21 o22 o23 v_z_length u.1 u.2.1 u.2.2.1 v_z_readMany v_z_lineAt v_text u.2.2.2.1 u.2.2.2.2 v_readLines)) rfl ⟨(Nat.le_of_ble_eq_true rfl), (Nat.le_of_ble_eq_true rfl)⟩ ⟨rfl, rfl⟩ (Nat.le_of_ble_eq_true rfl) rfl rfl rfl (by decide) (fun _ => rfl) (fun _ => rfl) (fun r19 u h => ?_)
        obtain ⟨v_z_readDots_20, v_z_readCool_21, v_z_readPower_22, v_readLevels_23, v_readTable_24⟩ := u
        dsimp only at h ⊢
        refine g_if_eq 60 X 79 dX8_readText_60 (by decide) (fun c => ?_) (fun c => ?_)
        · replace h := h.1 c
          refine g_sub [(1, .int x1)] [1] rfl ?_
          exact hC79 x1 v_z_readDots_20 v_z_readCool_21 v_z_readPower_22 v_z_readMany v_z_lineAt v_readLevels_23 v_readTable_24 v_readLines h
        · replace h := h.2 c
          refine g_goto 63 X 81 dX8_readText_63 (by decide) ?_
          refine g_iinc 81 X (x1 + (1 : Int32)) [(1, .int (x1 + (1 : Int32))), (0, .ref h0)] dX8_readText_81 1 rfl (k_ii_1 _) (Nat.le_of_ble_eq_true rfl) rfl ?_
          refine g_goto 84 X 32 dX8_readText_84 (by decide) ?_
          refine g_sub [(0, .ref h0), (1, .int (x1 + (1 : Int32)))] [1, 0] rfl ?_
          exact ih (x1 + (1 : Int32)) v_z_readDots_20 v_z_readCool_21 v_z_readPower_22 v_z_readMany v_z_lineAt v_readLevels_23 v_readTable_24 v_readLines h
set_option maxHeartbeats 4000000 in
set_option maxRecDepth 100000 in
theorem c_X8_readText {l : Launch} {E : g_E} (h0 : Nat) (h1 : Nat) (h2 : Nat) (h3 : Nat) (h4 : Nat) (o0 o1 o2 o3 o4 o5 o6 o7 o8 o9 o10 o11 o12 o13 o14 o15 o16 o17 o18 o19 o20 o21 o22 o23 : Value) (v_z_length : Int32) (v_z_readDots : Int32) (v_z_readCool : Int32) (v_z_readPower : Int32) (v_z_readMany : Int32) (v_z_lineAt : Int32) (v_text : Nat → Int32) (v_readLevels : Nat → Int32) (v_readTable : Nat → Int32) (v_readLines : Nat → Int32) {K : Int32 → Int32 → Int32 → Int32 → Int32 → Int32 → (Nat → Int32) → (Nat → Int32) → (Nat → Int32) → Prop} (h : P_X8_readText v_z_length v_z_readDots v_z_readCool v_z_readPower v_z_readMany v_z_lineAt v_text v_readLevels v_readTable v_readLines K) : g_CI l E yX8_readText cX8_readText 2 .int (g_Rm 2 48) [.ref h0] (W_X8_readText E h0 h1 h2 h3 h4 o0 o1 o2 o3 o4 o5 o6 o7 o8 o9 o10 o11 o12 o13 o14 o15 o16 o17 o18 o19 o20 o21 o22 o23 v_z_length v_z_readDots v_z_readCool v_z_readPower v_z_readMany v_z_lineAt v_text v_readLevels v_readTable v_readLines) (fun r (u : Int32 × Int32 × Int32 × Int32 × Int32 × (Nat → Int32) × (Nat → Int32) × (Nat → Int32)) => K r u.1 u.2.1 u.2.2.1 u.2.2.2.1 u.2.2.2.2.1 u.2.2.2.2.2.1 u.2.2.2.2.2.2.1 u.2.2.2.2.2.2.2) (fun (u : Int32 × Int32 × Int32 × Int32 × Int32 × (Nat → Int32) × (Nat → Int32) × (Nat → Int32)) => (W_X8_readText E h0 h1 h2 h3 h4 o0 o1 o2 o3 o4 o5 o6 o7 o8 o9 o10 o11 o12 o13 o14 o15 o16 o17 o18 o19 o20 o21 o22 o23 v_z_length u.1 u.2.1 u.2.2.1 u.2.2.2.1 u.2.2.2.2.1 v_text u.2.2.2.2.2.1 u.2.2.2.2.2.2.1 u.2.2.2.2.2.2.2)) := by
  refine g_entI RX8 (by decide) rfl (Nat.le_of_ble_eq_true rfl) ?_
  intro Γ X hE hl ret
  subst hE
  subst hl
  unfold P_X8_readText at h
  show g_G Γ (g_Rm 2 48) 2 0 [(0, .ref h0)] [] (W_X8_readText (g_env Γ) h0 h1 h2 h3 h4 o0 o1 o2 o3 o4 o5 o6 o7 o8 o9 o10 o11 o12 o13 o14 o15 o16 o17 o18 o19 o20 o21 o22 o23 v_z_length v_z_readDots v_z_readCool v_z_readPower v_z_readMany v_z_lineAt v_text v_readLevels v_readTable v_readLines)
  refine g_aload_n 0 X dX8_readText_0 0 rfl rfl ?_
  refine g_iconst 1 X (0 : Int32) dX8_readText_1 k_ic_0 ?_
  refine g_put 2 X (W_X8_readText (g_env Γ) h0 h1 h2 h3 h4 o0 o1 o2 o3 o4 o5 o6 o7 o8 o9 o10 o11 o12 o13 o14 o15 o16 o17 o18 o19 o20 o21 o22 o23 v_z_length v_z_readDots v_z_readCool v_z_readPower (0 : Int32) v_z_lineAt v_text v_readLevels v_readTable v_readLines) fa_X8_96 pa_8_30 dX8_readText_2 0 rfl rfl rfl (Nat.le_of_ble_eq_true rfl) rfl ?_
  refine g_aload_n 5 X dX8_readText_5 0 rfl rfl ?_
  refine g_iconst 6 X (-1 : Int32) dX8_readText_6 k_ic_m1 ?_
  refine g_put 7 X (W_X8_readText (g_env Γ) h0 h1 h2 h3 h4 o0 o1 o2 o3 o4 o5 o6 o7 o8 o9 o10 o11 o12 o13 o14 o15 o16 o17 o18 o19 o20 o21 o22 o23 v_z_length v_z_readDots v_z_readCool v_z_readPower (0 : Int32) (-1 : Int32) v_text v_readLevels v_readTable v_readLines) fa_X8_93 pa_8_33 dX8_readText_7 0 rfl rfl rfl (Nat.le_of_ble_eq_true rfl) rfl ?_
  refine g_aload_n 10 X dX8_readText_10 0 rfl rfl ?_
  refine g_get 11 X fa_X8_75 dX8_readText_11 0 rfl rfl ?_
  refine g_if_eq 14 X 28 dX8_readText_14 (by decide) (fun c => ?_) (fun c => ?_)
  · replace h := h.1 c
    refine g_iconst 28 X (0 : Int32) dX8_readText_28 k_ic_0 ?_
    exact ret 29 _ _ (v_z_readDots, v_z_readCool, v_z_readPower, (0 : Int32), (-1 : Int32), v_readLevels, v_readTable, v_readLines) dX8_readText_29 (vp_nar_int _) h
  · replace h := h.2 c
    refine g_aload_n 17 X dX8_readText_17 0 rfl rfl ?_
    refine g_get 18 X fa_X8_7 dX8_readText_18 0 rfl rfl ?_
    refine g_iconst 21 X (0 : Int32) dX8_readText_21 k_ic_0 ?_
    refine g_iald 22 X dX8_readText_22 1 rfl rfl (vp_lit (by decide)) ?_
    refine g_bipush 23 X (72 : Int32) dX8_readText_23 k_bp_72 ?_
    refine g_icmp_eq 25 X 30 dX8_readText_25 (by decide) (fun c => ?_) (fun c => ?_)
    · replace h := h.1 c
      refine g_iconst 30 X (1 : Int32) dX8_readText_30 k_ic_1 ?_
      refine g_istore_n 31 X [(1, .int (1 : Int32)), (0, .ref h0)] dX8_readText_31 rfl (Nat.le_of_ble_eq_true rfl) rfl ?_
      obtain ⟨n42, h⟩ := h
      refine g_sub [(0, .ref h0), (1, .int (1 : Int32))] [1, 0] rfl ?_
      refine l_X8_readText_32 X h0 h1 h2 h3 h4 o0 o1 o2 o3 o4 o5 o6 o7 o8 o9 o10 o11 o12 o13 o14 o15 o16 o17 o18 o19 o20 o21 o22 o23 v_z_length v_text (fun x25 v_z_readDots_26 v_z_readCool_27 v_z_readPower_28 v_z_readMany_29 v_z_lineAt_30 v_readLevels_31 v_readTable_32 v_readLines_33 h => ?_) (fun v_z_readDots_34 v_z_readCool_35 v_z_readPower_36 v_z_readMany_37 v_z_lineAt_38 v_readLevels_39 v_readTable_40 v_readLines_41 h => ?_) n42 (1 : Int32) v_z_readDots v_z_readCool v_z_readPower (0 : Int32) (-1 : Int32) v_readLevels v_readTable v_readLines h
      · refine g_iload_n 79 X dX8_readText_79 0 rfl rfl ?_
        exact ret 80 _ _ (v_z_readDots_26, v_z_readCool_27, v_z_readPower_28, v_z_readMany_29, v_z_lineAt_30, v_readLevels_31, v_readTable_32, v_readLines_33) dX8_readText_80 (vp_nar_int _) h
      · refine g_aload_n 87 X dX8_readText_87 0 rfl rfl ?_
        refine g_get 88 X fa_X8_75 dX8_readText_88 0 rfl rfl ?_
        refine g_bipush 91 X (17 : Int32) dX8_readText_91 k_bp_17 ?_
        refine g_icmp_le 93 X 108 dX8_readText_93 (by decide) (fun c => ?_) (fun c => ?_)
        · replace h := h.1 c
          refine g_aload_n 108 X dX8_readText_108 0 rfl rfl ?_
          refine g_get 109 X fa_X8_75 dX8_readText_109 0 rfl rfl ?_
          exact ret 112 _ _ (v_z_readDots_34, v_z_readCool_35, v_z_readPower_36, v_z_readMany_37, v_z_lineAt_38, v_readLevels_39, v_readTable_40, v_readLines_41) dX8_readText_112 (vp_nar_int _) h
        · replace h := h.2 c
          refine g_aload_n 96 X dX8_readText_96 0 rfl rfl ?_
          refine g_get 97 X fa_X8_93 dX8_readText_97 0 rfl rfl ?_
          refine g_if_ge 100 X 108 dX8_readText_100 (by decide) (fun c => ?_) (fun c => ?_)
          · replace h := h.1 c
            refine g_aload_n 108 X dX8_readText_108 0 rfl rfl ?_
            refine g_get 109 X fa_X8_75 dX8_readText_109 0 rfl rfl ?_
            exact ret 112 _ _ (v_z_readDots_34, v_z_readCool_35, v_z_readPower_36, v_z_readMany_37, v_z_lineAt_38, v_readLevels_39, v_readTable_40, v_readLines_41) dX8_readText_112 (vp_nar_int _) h
          · replace h := h.2 c
            refine g_bipush 103 X (-9 : Int32) dX8_readText_103 k_bp_m9 ?_
            refine g_goto 105 X 112 dX8_readText_105 (by decide) ?_
            exact ret 112 _ _ (v_z_readDots_34, v_z_readCool_35, v_z_readPower_36, v_z_readMany_37, v_z_lineAt_38, v_readLevels_39, v_readTable_40, v_readLines_41) dX8_readText_112 (vp_nar_int _) h
    · replace h := h.2 c
      refine g_iconst 28 X (0 : Int32) dX8_readText_28 k_ic_0 ?_
      exact ret 29 _ _ (v_z_readDots, v_z_readCool, v_z_readPower, (0 : Int32), (-1 : Int32), v_readLevels, v_readTable, v_readLines) dX8_readText_29 (vp_nar_int _) h

def W_X8_fault (E : g_E) (h0 : Nat) (h1 : Nat) (h2 : Nat) (h3 : Nat) (h4 : Nat) (o0 o1 o2 o3 o4 o5 o6 o7 o8 o9 o10 o11 o12 o13 o14 o15 o16 o17 o18 o19 o20 o21 o22 o23 : Value) (v_z_length : Int32) (v_z_readDots : Int32) (v_z_readCool : Int32) (v_z_readPower : Int32) (v_z_readMany : Int32) (v_z_lineAt : Int32) (v_text : Nat → Int32) (v_readLevels : Nat → Int32) (v_readTable : Nat → Int32) (v_readLines : Nat → Int32) : va_W := [(h0, .inr (8, [.ref h1, .int v_z_length, o0, o1, o2, o3, o4, o5, o6, o7, o8, o9, o10, o11, o12, o13, o14, o15, o16, o17, o18, o19, o20, o21, o22, .int v_z_readDots, .int v_z_readCool, .int v_z_readPower, .ref h2, .ref h3, .int v_z_readMany, .ref h4, o23, .int v_z_lineAt])), (h1, .inl (E.2.1, 99, .inl v_text)), (h2, .inl (E.2.1, 3, .inl v_readLevels)), (h3, .inl (E.2.1, 5, .inl v_readTable)), (h4, .inl (E.2.1, 8, .inl v_readLines))]
def P_X8_fault (v_z_length : Int32) (v_z_readDots : Int32) (v_z_readCool : Int32) (v_z_readPower : Int32) (v_z_readMany : Int32) (v_z_lineAt : Int32) (v_text : Nat → Int32) (v_readLevels : Nat → Int32) (v_readTable : Nat → Int32) (v_readLines : Nat → Int32) (K : Int32 → Int32 → Int32 → Int32 → Int32 → Int32 → (Nat → Int32) → (Nat → Int32) → (Nat → Int32) → Prop) : Prop := (P_X8_readText v_z_length v_z_readDots v_z_readCool v_z_readPower v_z_readMany v_z_lineAt v_text v_readLevels v_readTable v_readLines (fun r1 v_z_readDots_2 v_z_readCool_3 v_z_readPower_4 v_z_readMany_5 v_z_lineAt_6 v_readLevels_7 v_readTable_8 v_readLines_9 => K r1 v_z_readDots_2 v_z_readCool_3 v_z_readPower_4 v_z_readMany_5 v_z_lineAt_6 v_readLevels_7 v_readTable_8 v_readLines_9))
set_option maxHeartbeats 4000000 in
set_option maxRecDepth 100000 in
theorem c_X8_fault {l : Launch} {E : g_E} (h0 : Nat) (h1 : Nat) (h2 : Nat) (h3 : Nat) (h4 : Nat) (o0 o1 o2 o3 o4 o5 o6 o7 o8 o9 o10 o11 o12 o13 o14 o15 o16 o17 o18 o19 o20 o21 o22 o23 : Value) (v_z_length : Int32) (v_z_readDots : Int32) (v_z_readCool : Int32) (v_z_readPower : Int32) (v_z_readMany : Int32) (v_z_lineAt : Int32) (v_text : Nat → Int32) (v_readLevels : Nat → Int32) (v_readTable : Nat → Int32) (v_readLines : Nat → Int32) {K : Int32 → Int32 → Int32 → Int32 → Int32 → Int32 → (Nat → Int32) → (Nat → Int32) → (Nat → Int32) → Prop} (h : P_X8_fault v_z_length v_z_readDots v_z_readCool v_z_readPower v_z_readMany v_z_lineAt v_text v_readLevels v_readTable v_readLines K) : g_CI l E yX8_fault cX8_fault 1 .int (g_Rm 3 69) [.ref h0] (W_X8_fault E h0 h1 h2 h3 h4 o0 o1 o2 o3 o4 o5 o6 o7 o8 o9 o10 o11 o12 o13 o14 o15 o16 o17 o18 o19 o20 o21 o22 o23 v_z_length v_z_readDots v_z_readCool v_z_readPower v_z_readMany v_z_lineAt v_text v_readLevels v_readTable v_readLines) (fun r (u : Int32 × Int32 × Int32 × Int32 × Int32 × (Nat → Int32) × (Nat → Int32) × (Nat → Int32)) => K r u.1 u.2.1 u.2.2.1 u.2.2.2.1 u.2.2.2.2.1 u.2.2.2.2.2.1 u.2.2.2.2.2.2.1 u.2.2.2.2.2.2.2) (fun (u : Int32 × Int32 × Int32 × Int32 × Int32 × (Nat → Int32) × (Nat → Int32) × (Nat → Int32)) => (W_X8_fault E h0 h1 h2 h3 h4 o0 o1 o2 o3 o4 o5 o6 o7 o8 o9 o10 o11 o12 o13 o14 o15 o16 o17 o18 o19 o20 o21 o22 o23 v_z_length u.1 u.2.1 u.2.2.1 u.2.2.2.1 u.2.2.2.2.1 v_text u.2.2.2.2.2.1 u.2.2.2.2.2.2.1 u.2.2.2.2.2.2.2)) := by
  refine g_entI RX8 (by decide) rfl (Nat.le_of_ble_eq_true rfl) ?_
  intro Γ X hE hl ret
  subst hE
  subst hl
  unfold P_X8_fault at h
  show g_G Γ (g_Rm 3 69) 1 0 [(0, .ref h0)] [] (W_X8_fault (g_env Γ) h0 h1 h2 h3 h4 o0 o1 o2 o3 o4 o5 o6 o7 o8 o9 o10 o11 o12 o13 o14 o15 o16 o17 o18 o19 o20 o21 o22 o23 v_z_length v_z_readDots v_z_readCool v_z_readPower v_z_readMany v_z_lineAt v_text v_readLevels v_readTable v_readLines)
  refine g_aload_n 0 X dX8_fault_0 0 rfl rfl ?_
  refine g_cVI 1 X (st := []) mv_X8_107 dX8_fault_1 h0 8 [] (c_X8_readText h0 h1 h2 h3 h4 o0 o1 o2 o3 o4 o5 o6 o7 o8 o9 o10 o11 o12 o13 o14 o15 o16 o17 o18 o19 o20 o21 o22 o23 v_z_length v_z_readDots v_z_readCool v_z_readPower v_z_readMany v_z_lineAt v_text v_readLevels v_readTable v_readLines h) [0, 1, 2, 3, 4] (fun u : Int32 × Int32 × Int32 × Int32 × Int32 × (Nat → Int32) × (Nat → Int32) × (Nat → Int32) => (W_X8_fault (g_env Γ) h0 h1 h2 h3 h4 o0 o1 o2 o3 o4 o5 o6 o7 o8 o9 o10 o11 o12 o13 o14 o15 o16 o17 o18 o19 o20 o21 o22 o23 v_z_length u.1 u.2.1 u.2.2.1 u.2.2.2.1 u.2.2.2.2.1 v_text u.2.2.2.2.2.1 u.2.2.2.2.2.2.1 u.2.2.2.2.2.2.2)) rfl ⟨(Nat.le_of_ble_eq_true rfl), (Nat.le_of_ble_eq_true rfl)⟩ ⟨rfl, rfl⟩ (Nat.le_of_ble_eq_true rfl) rfl rfl rfl (by decide) (fun _ => rfl) (fun _ => rfl) (fun r1 u h => ?_)
  obtain ⟨v_z_readDots_2, v_z_readCool_3, v_z_readPower_4, v_z_readMany_5, v_z_lineAt_6, v_readLevels_7, v_readTable_8, v_readLines_9⟩ := u
  dsimp only at h ⊢
  exact ret 4 _ _ (v_z_readDots_2, v_z_readCool_3, v_z_readPower_4, v_z_readMany_5, v_z_lineAt_6, v_readLevels_7, v_readTable_8, v_readLines_9) dX8_fault_4 (vp_nar_int _) h

def W_X8_job (E : g_E) (h0 : Nat) (h1 : Nat) (h2 : Nat) (h3 : Nat) (h4 : Nat) (h5 : Nat) (h6 : Nat) (o0 o1 o2 o3 o4 o5 o6 o7 o8 o9 o10 o11 o12 o13 o14 : Value) (v_z_length : Int32) (v_z_dots : Int32) (v_z_cool : Int32) (v_z_power : Int32) (v_z_low : Int32) (v_z_high : Int32) (v_z_ghost : Int32) (v_z_acts : Int32) (v_z_readDots : Int32) (v_z_readCool : Int32) (v_z_readPower : Int32) (v_z_readMany : Int32) (v_z_lineAt : Int32) (v_text : Nat → Int32) (v_now : Nat → Int32) (v_isKept : Nat → Int32) (v_readLevels : Nat → Int32) (v_readTable : Nat → Int32) (v_readLines : Nat → Int32) : va_W := [(h0, .inr (8, [.ref h1, .int v_z_length, .int v_z_dots, .int v_z_cool, .int v_z_power, .int v_z_low, .int v_z_high, .int v_z_ghost, .ref h2, o0, o1, .int v_z_acts, o2, o3, .ref h3, o4, o5, o6, o7, o8, o9, o10, o11, o12, o13, .int v_z_readDots, .int v_z_readCool, .int v_z_readPower, .ref h4, .ref h5, .int v_z_readMany, .ref h6, o14, .int v_z_lineAt])), (h1, .inl (E.2.1, 99, .inl v_text)), (h2, .inl (E.2.1, 30, .inl v_now)), (h3, .inl (E.2.2.1, 2, .inl v_isKept)), (h4, .inl (E.2.1, 3, .inl v_readLevels)), (h5, .inl (E.2.1, 5, .inl v_readTable)), (h6, .inl (E.2.1, 8, .inl v_readLines))]
def P_X8_job_L14 (C33 : (Nat → Int32) → Prop) : Nat → Int32 → (Nat → Int32) → Prop
  | 0, _, _ => False
  | n + 1, x1, v_now => (((30 : Int32) ≤ x1 → C33 v_now) ∧ (¬ (30 : Int32) ≤ x1 → (vp_in x1 30 ∧ P_X8_job_L14 C33 n (x1 + (1 : Int32)) (upd v_now (Int32.toNatClampNeg x1) (0 : Int32)))))
def P_X8_job_L89 (v_readTable : Nat → Int32) (C115 : (Nat → Int32) → Prop) : Nat → Int32 → (Nat → Int32) → Prop
  | 0, _, _ => False
  | n + 1, x1, v_now => (((5 : Int32) ≤ x1 → C115 v_now) ∧ (¬ (5 : Int32) ≤ x1 → (vp_in x1 5 ∧ (vp_in ((8 : Int32) + x1) 30 ∧ P_X8_job_L89 v_readTable C115 n (x1 + (1 : Int32)) (upd v_now (Int32.toNatClampNeg ((8 : Int32) + x1)) (v_readTable (Int32.toNatClampNeg x1)))))))
def P_X8_job_L117 (v_z_readMany : Int32) (v_readLines : Nat → Int32) (C146 : (Nat → Int32) → Prop) : Nat → Int32 → (Nat → Int32) → Prop
  | 0, _, _ => False
  | n + 1, x1, v_now => ((v_z_readMany ≤ x1 → C146 v_now) ∧ (¬ v_z_readMany ≤ x1 → (vp_in x1 8 ∧ (vp_in ((13 : Int32) + x1) 30 ∧ P_X8_job_L117 v_z_readMany v_readLines C146 n (x1 + (1 : Int32)) (upd v_now (Int32.toNatClampNeg ((13 : Int32) + x1)) (v_readLines (Int32.toNatClampNeg x1)))))))
def P_X8_job (v_z_length : Int32) (v_z_dots : Int32) (v_z_cool : Int32) (v_z_power : Int32) (v_z_low : Int32) (v_z_high : Int32) (v_z_ghost : Int32) (v_z_acts : Int32) (v_z_readDots : Int32) (v_z_readCool : Int32) (v_z_readPower : Int32) (v_z_readMany : Int32) (v_z_lineAt : Int32) (v_text : Nat → Int32) (v_now : Nat → Int32) (v_isKept : Nat → Int32) (v_readLevels : Nat → Int32) (v_readTable : Nat → Int32) (v_readLines : Nat → Int32) (K : Int32 → Int32 → Int32 → Int32 → Int32 → Int32 → Int32 → Int32 → Int32 → Int32 → Int32 → Int32 → Int32 → (Nat → Int32) → (Nat → Int32) → (Nat → Int32) → (Nat → Int32) → (Nat → Int32) → Prop) : Prop := (P_X8_readText v_z_length v_z_readDots v_z_readCool v_z_readPower v_z_readMany v_z_lineAt v_text v_readLevels v_readTable v_readLines (fun r1 v_z_readDots_2 v_z_readCool_3 v_z_readPower_4 v_z_readMany_5 v_z_lineAt_6 v_readLevels_7 v_readTable_8 v_readLines_9 => ((r1 = (-9 : Int32) → (∃ ne : Nat, P_X8_job_L14 (fun v_now_12 => (∃ ne : Nat, P_X8_job_L89 v_readTable_8 (fun v_now_17 => (∃ ne : Nat, P_X8_job_L117 v_z_readMany_5 v_readLines_9 (fun v_now_22 => K v_z_readMany_5 v_z_readDots_2 v_z_readCool_3 v_z_readPower_4 (v_readLevels_7 (Int32.toNatClampNeg (0 : Int32))) (v_readLevels_7 (Int32.toNatClampNeg (1 : Int32))) (v_readLevels_7 (Int32.toNatClampNeg (2 : Int32))) (0 : Int32) v_z_readDots_2 v_z_readCool_3 v_z_readPower_4 v_z_readMany_5 v_z_lineAt_6 (upd (upd v_now_22 (Int32.toNatClampNeg (21 : Int32)) v_z_readMany_5) (Int32.toNatClampNeg (24 : Int32)) (99 : Int32)) (upd (upd v_isKept (Int32.toNatClampNeg (0 : Int32)) (vp_nar .boolean (0 : Int32))) (Int32.toNatClampNeg (1 : Int32)) (vp_nar .boolean (0 : Int32))) v_readLevels_7 v_readTable_8 v_readLines_9) ne (0 : Int32) v_now_17)) ne (0 : Int32) v_now_12)) ne (0 : Int32) v_now)) ∧ (¬ r1 = (-9 : Int32) → K (-3 : Int32) v_z_dots v_z_cool v_z_power v_z_low v_z_high v_z_ghost v_z_acts v_z_readDots_2 v_z_readCool_3 v_z_readPower_4 v_z_readMany_5 v_z_lineAt_6 v_now v_isKept v_readLevels_7 v_readTable_8 v_readLines_9))))
set_option maxHeartbeats 4000000 in
set_option maxRecDepth 100000 in
theorem l_X8_job_14 {Γ : g_C} (X : g_X Γ (g_Rm 3 69) cX8_job RX8 2) (h0 : Nat) (h1 : Nat) (h2 : Nat) (h3 : Nat) (h4 : Nat) (h5 : Nat) (h6 : Nat) (o0 o1 o2 o3 o4 o5 o6 o7 o8 o9 o10 o11 o12 o13 o14 : Value) (v_z_length : Int32) (v_z_dots : Int32) (v_z_cool : Int32) (v_z_power : Int32) (v_z_low : Int32) (v_z_high : Int32) (v_z_ghost : Int32) (v_z_acts : Int32) (v_z_readDots : Int32) (v_z_readCool : Int32) (v_z_readPower : Int32) (v_z_readMany : Int32) (v_z_lineAt : Int32) (v_text : Nat → Int32) (v_isKept : Nat → Int32) (v_readLevels : Nat → Int32) (v_readTable : Nat → Int32) (v_readLines : Nat → Int32) {C33 : (Nat → Int32) → Prop} (hC33 : ∀ (v_now : Nat → Int32), C33 v_now → g_G Γ (g_Rm 3 69) 2 33 [(0, .ref h0)] [] (W_X8_job (g_env Γ) h0 h1 h2 h3 h4 h5 h6 o0 o1 o2 o3 o4 o5 o6 o7 o8 o9 o10 o11 o12 o13 o14 v_z_length v_z_dots v_z_cool v_z_power v_z_low v_z_high v_z_ghost v_z_acts v_z_readDots v_z_readCool v_z_readPower v_z_readMany v_z_lineAt v_text v_now v_isKept v_readLevels v_readTable v_readLines)) : ∀ (n : Nat) (x1 : Int32) (v_now : Nat → Int32), P_X8_job_L14 C33 n x1 v_now → g_G Γ (g_Rm 3 69) 2 14 [(0, .ref h0), (1, .int x1)] [] (W_X8_job (g_env Γ) h0 h1 h2 h3 h4 h5 h6 o0 o1 o2 o3 o4 o5 o6 o7 o8 o9 o10 o11 o12 o13 o14 v_z_length v_z_dots v_z_cool v_z_power v_z_low v_z_high v_z_ghost v_z_acts v_z_readDots v_z_readCool v_z_readPower v_z_readMany v_z_lineAt v_text v_now v_isKept v_readLevels v_readTable v_readLines) := by
  intro n
  induction n with
  | zero => intro x1 v_now h; exact False.elim h
  | succ n ih =>
    intro x1 v_now h
    unfold P_X8_job_L14 at h
    refine g_iload_n 14 X dX8_job_14 1 rfl rfl ?_
    refine g_bipush 15 X (30 : Int32) dX8_job_15 k_bp_30 ?_
    refine g_icmp_ge 17 X 33 dX8_job_17 (by decide) (fun c => ?_) (fun c => ?_)
    · replace h := h.1 c
      refine g_sub [(0, .ref h0)] [0] rfl ?_
      exact hC33 v_now h
    · replace h := h.2 c
      refine g_aload_n 20 X dX8_job_20 0 rfl rfl ?_
      refine g_get 21 X fa_X8_13 dX8_job_21 0 rfl rfl ?_
      refine g_iload_n 24 X dX8_job_24 1 rfl rfl ?_
      refine g_iconst 25 X (0 : Int32) dX8_job_25 k_ic_0 ?_
      have f11 := h.1; replace h := h.2
      refine g_iast 26 X (W_X8_job (g_env Γ) h0 h1 h2 h3 h4 h5 h6 o0 o1 o2 o3 o4 o5 o6 o7 o8 o9 o10 o11 o12 o13 o14 v_z_length v_z_dots v_z_cool v_z_power v_z_low v_z_high v_z_ghost v_z_acts v_z_readDots v_z_readCool v_z_readPower v_z_readMany v_z_lineAt v_text (upd v_now (Int32.toNatClampNeg x1) (0 : Int32)) v_isKept v_readLevels v_readTable v_readLines) dX8_job_26 2 rfl rfl f11 rfl ?_
      refine g_iinc 27 X (x1 + (1 : Int32)) [(1, .int (x1 + (1 : Int32))), (0, .ref h0)] dX8_job_27 1 rfl (k_ii_1 _) (Nat.le_of_ble_eq_true rfl) rfl ?_
      refine g_goto 30 X 14 dX8_job_30 (by decide) ?_
      refine g_sub [(0, .ref h0), (1, .int (x1 + (1 : Int32)))] [1, 0] rfl ?_
      exact ih (x1 + (1 : Int32)) (upd v_now (Int32.toNatClampNeg x1) (0 : Int32)) h
set_option maxHeartbeats 4000000 in
set_option maxRecDepth 100000 in
theorem l_X8_job_89 {Γ : g_C} (X : g_X Γ (g_Rm 3 69) cX8_job RX8 2) (h0 : Nat) (h1 : Nat) (h2 : Nat) (h3 : Nat) (h4 : Nat) (h5 : Nat) (h6 : Nat) (o0 o1 o2 o3 o4 o5 o6 o7 o8 o9 o10 o11 o12 o13 o14 : Value) (v_z_length : Int32) (v_z_dots : Int32) (v_z_cool : Int32) (v_z_power : Int32) (v_z_low : Int32) (v_z_high : Int32) (v_z_ghost : Int32) (v_z_acts : Int32) (v_z_readDots : Int32) (v_z_readCool : Int32) (v_z_readPower : Int32) (v_z_readMany : Int32) (v_z_lineAt : Int32) (v_text : Nat → Int32) (v_isKept : Nat → Int32) (v_readLevels : Nat → Int32) (v_readTable : Nat → Int32) (v_readLines : Nat → Int32) {C115 : (Nat → Int32) → Prop} (hC115 : ∀ (v_now : Nat → Int32), C115 v_now → g_G Γ (g_Rm 3 69) 2 115 [(0, .ref h0)] [] (W_X8_job (g_env Γ) h0 h1 h2 h3 h4 h5 h6 o0 o1 o2 o3 o4 o5 o6 o7 o8 o9 o10 o11 o12 o13 o14 v_z_length v_z_dots v_z_cool v_z_power v_z_low v_z_high v_z_ghost v_z_acts v_z_readDots v_z_readCool v_z_readPower v_z_readMany v_z_lineAt v_text v_now v_isKept v_readLevels v_readTable v_readLines)) : ∀ (n : Nat) (x1 : Int32) (v_now : Nat → Int32), P_X8_job_L89 v_readTable C115 n x1 v_now → g_G Γ (g_Rm 3 69) 2 89 [(0, .ref h0), (1, .int x1)] [] (W_X8_job (g_env Γ) h0 h1 h2 h3 h4 h5 h6 o0 o1 o2 o3 o4 o5 o6 o7 o8 o9 o10 o11 o12 o13 o14 v_z_length v_z_dots v_z_cool v_z_power v_z_low v_z_high v_z_ghost v_z_acts v_z_readDots v_z_readCool v_z_readPower v_z_readMany v_z_lineAt v_text v_now v_isKept v_readLevels v_readTable v_readLines) := by
  intro n
  induction n with
  | zero => intro x1 v_now h; exact False.elim h
  | succ n ih =>
    intro x1 v_now h
    unfold P_X8_job_L89 at h
    refine g_iload_n 89 X dX8_job_89 1 rfl rfl ?_
    refine g_iconst 90 X (5 : Int32) dX8_job_90 k_ic_5 ?_
    refine g_icmp_ge 91 X 115 dX8_job_91 (by decide) (fun c => ?_) (fun c => ?_)
    · replace h := h.1 c
      refine g_sub [(0, .ref h0)] [0] rfl ?_
      exact hC115 v_now h
    · replace h := h.2 c
      refine g_aload_n 94 X dX8_job_94 0 rfl rfl ?_
      refine g_get 95 X fa_X8_13 dX8_job_95 0 rfl rfl ?_
      refine g_bipush 98 X (8 : Int32) dX8_job_98 k_bp_8 ?_
      refine g_iload_n 100 X dX8_job_100 1 rfl rfl ?_
      refine g_iadd 101 X dX8_job_101 ?_
      refine g_aload_n 102 X dX8_job_102 0 rfl rfl ?_
      refine g_get 103 X fa_X8_53 dX8_job_103 0 rfl rfl ?_
      refine g_iload_n 106 X dX8_job_106 1 rfl rfl ?_
      have f15 := h.1; replace h := h.2
      refine g_iald 107 X dX8_job_107 5 rfl rfl f15 ?_
      have f16 := h.1; replace h := h.2
      refine g_iast 108 X (W_X8_job (g_env Γ) h0 h1 h2 h3 h4 h5 h6 o0 o1 o2 o3 o4 o5 o6 o7 o8 o9 o10 o11 o12 o13 o14 v_z_length v_z_dots v_z_cool v_z_power v_z_low v_z_high v_z_ghost v_z_acts v_z_readDots v_z_readCool v_z_readPower v_z_readMany v_z_lineAt v_text (upd v_now (Int32.toNatClampNeg ((8 : Int32) + x1)) (v_readTable (Int32.toNatClampNeg x1))) v_isKept v_readLevels v_readTable v_readLines) dX8_job_108 2 rfl rfl f16 rfl ?_
      refine g_iinc 109 X (x1 + (1 : Int32)) [(1, .int (x1 + (1 : Int32))), (0, .ref h0)] dX8_job_109 1 rfl (k_ii_1 _) (Nat.le_of_ble_eq_true rfl) rfl ?_
      refine g_goto 112 X 89 dX8_job_112 (by decide) ?_
      refine g_sub [(0, .ref h0), (1, .int (x1 + (1 : Int32)))] [1, 0] rfl ?_
      exact ih (x1 + (1 : Int32)) (upd v_now (Int32.toNatClampNeg ((8 : Int32) + x1)) (v_readTable (Int32.toNatClampNeg x1))) h
set_option maxHeartbeats 4000000 in
set_option maxRecDepth 100000 in
theorem l_X8_job_117 {Γ : g_C} (X : g_X Γ (g_Rm 3 69) cX8_job RX8 2) (h0 : Nat) (h1 : Nat) (h2 : Nat) (h3 : Nat) (h4 : Nat) (h5 : Nat) (h6 : Nat) (o0 o1 o2 o3 o4 o5 o6 o7 o8 o9 o10 o11 o12 o13 o14 : Value) (v_z_length : Int32) (v_z_dots : Int32) (v_z_cool : Int32) (v_z_power : Int32) (v_z_low : Int32) (v_z_high : Int32) (v_z_ghost : Int32) (v_z_acts : Int32) (v_z_readDots : Int32) (v_z_readCool : Int32) (v_z_readPower : Int32) (v_z_readMany : Int32) (v_z_lineAt : Int32) (v_text : Nat → Int32) (v_isKept : Nat → Int32) (v_readLevels : Nat → Int32) (v_readTable : Nat → Int32) (v_readLines : Nat → Int32) {C146 : (Nat → Int32) → Prop} (hC146 : ∀ (v_now : Nat → Int32), C146 v_now → g_G Γ (g_Rm 3 69) 2 146 [(0, .ref h0)] [] (W_X8_job (g_env Γ) h0 h1 h2 h3 h4 h5 h6 o0 o1 o2 o3 o4 o5 o6 o7 o8 o9 o10 o11 o12 o13 o14 v_z_length v_z_dots v_z_cool v_z_power v_z_low v_z_high v_z_ghost v_z_acts v_z_readDots v_z_readCool v_z_readPower v_z_readMany v_z_lineAt v_text v_now v_isKept v_readLevels v_readTable v_readLines)) : ∀ (n : Nat) (x1 : Int32) (v_now : Nat → Int32), P_X8_job_L117 v_z_readMany v_readLines C146 n x1 v_now → g_G Γ (g_Rm 3 69) 2 117 [(0, .ref h0), (1, .int x1)] [] (W_X8_job (g_env Γ) h0 h1 h2 h3 h4 h5 h6 o0 o1 o2 o3 o4 o5 o6 o7 o8 o9 o10 o11 o12 o13 o14 v_z_length v_z_dots v_z_cool v_z_power v_z_low v_z_high v_z_ghost v_z_acts v_z_readDots v_z_readCool v_z_readPower v_z_readMany v_z_lineAt v_text v_now v_isKept v_readLevels v_readTable v_readLines) := by
  intro n
  induction n with
  | zero => intro x1 v_now h; exact False.elim h
  | succ n ih =>
    intro x1 v_now h
    unfold P_X8_job_L117 at h
    refine g_iload_n 117 X dX8_job_117 1 rfl rfl ?_
    refine g_aload_n 118 X dX8_job_118 0 rfl rfl ?_
    refine g_get 119 X fa_X8_96 dX8_job_119 0 rfl rfl ?_
    refine g_icmp_ge 122 X 146 dX8_job_122 (by decide) (fun c => ?_) (fun c => ?_)
    · replace h := h.1 c
      refine g_sub [(0, .ref h0)] [0] rfl ?_
      exact hC146 v_now h
    · replace h := h.2 c
      refine g_aload_n 125 X dX8_job_125 0 rfl rfl ?_
      refine g_get 126 X fa_X8_13 dX8_job_126 0 rfl rfl ?_
      refine g_bipush 129 X (13 : Int32) dX8_job_129 k_bp_13 ?_
      refine g_iload_n 131 X dX8_job_131 1 rfl rfl ?_
      refine g_iadd 132 X dX8_job_132 ?_
      refine g_aload_n 133 X dX8_job_133 0 rfl rfl ?_
      refine g_get 134 X fa_X8_56 dX8_job_134 0 rfl rfl ?_
      refine g_iload_n 137 X dX8_job_137 1 rfl rfl ?_
      have f20 := h.1; replace h := h.2
      refine g_iald 138 X dX8_job_138 6 rfl rfl f20 ?_
      have f21 := h.1; replace h := h.2
      refine g_iast 139 X (W_X8_job (g_env Γ) h0 h1 h2 h3 h4 h5 h6 o0 o1 o2 o3 o4 o5 o6 o7 o8 o9 o10 o11 o12 o13 o14 v_z_length v_z_dots v_z_cool v_z_power v_z_low v_z_high v_z_ghost v_z_acts v_z_readDots v_z_readCool v_z_readPower v_z_readMany v_z_lineAt v_text (upd v_now (Int32.toNatClampNeg ((13 : Int32) + x1)) (v_readLines (Int32.toNatClampNeg x1))) v_isKept v_readLevels v_readTable v_readLines) dX8_job_139 2 rfl rfl f21 rfl ?_
      refine g_iinc 140 X (x1 + (1 : Int32)) [(1, .int (x1 + (1 : Int32))), (0, .ref h0)] dX8_job_140 1 rfl (k_ii_1 _) (Nat.le_of_ble_eq_true rfl) rfl ?_
      refine g_goto 143 X 117 dX8_job_143 (by decide) ?_
      refine g_sub [(0, .ref h0), (1, .int (x1 + (1 : Int32)))] [1, 0] rfl ?_
      exact ih (x1 + (1 : Int32)) (upd v_now (Int32.toNatClampNeg ((13 : Int32) + x1)) (v_readLines (Int32.toNatClampNeg x1))) h
set_option maxHeartbeats 4000000 in
set_option maxRecDepth 100000 in
theorem c_X8_job {l : Launch} {E : g_E} (h0 : Nat) (h1 : Nat) (h2 : Nat) (h3 : Nat) (h4 : Nat) (h5 : Nat) (h6 : Nat) (o0 o1 o2 o3 o4 o5 o6 o7 o8 o9 o10 o11 o12 o13 o14 : Value) (v_z_length : Int32) (v_z_dots : Int32) (v_z_cool : Int32) (v_z_power : Int32) (v_z_low : Int32) (v_z_high : Int32) (v_z_ghost : Int32) (v_z_acts : Int32) (v_z_readDots : Int32) (v_z_readCool : Int32) (v_z_readPower : Int32) (v_z_readMany : Int32) (v_z_lineAt : Int32) (v_text : Nat → Int32) (v_now : Nat → Int32) (v_isKept : Nat → Int32) (v_readLevels : Nat → Int32) (v_readTable : Nat → Int32) (v_readLines : Nat → Int32) {K : Int32 → Int32 → Int32 → Int32 → Int32 → Int32 → Int32 → Int32 → Int32 → Int32 → Int32 → Int32 → Int32 → (Nat → Int32) → (Nat → Int32) → (Nat → Int32) → (Nat → Int32) → (Nat → Int32) → Prop} (h : P_X8_job v_z_length v_z_dots v_z_cool v_z_power v_z_low v_z_high v_z_ghost v_z_acts v_z_readDots v_z_readCool v_z_readPower v_z_readMany v_z_lineAt v_text v_now v_isKept v_readLevels v_readTable v_readLines K) : g_CI l E yX8_job cX8_job 2 .int (g_Rm 3 69) [.ref h0] (W_X8_job E h0 h1 h2 h3 h4 h5 h6 o0 o1 o2 o3 o4 o5 o6 o7 o8 o9 o10 o11 o12 o13 o14 v_z_length v_z_dots v_z_cool v_z_power v_z_low v_z_high v_z_ghost v_z_acts v_z_readDots v_z_readCool v_z_readPower v_z_readMany v_z_lineAt v_text v_now v_isKept v_readLevels v_readTable v_readLines) (fun r (u : Int32 × Int32 × Int32 × Int32 × Int32 × Int32 × Int32 × Int32 × Int32 × Int32 × Int32 × Int32 × (Nat → Int32) × (Nat → Int32) × (Nat → Int32) × (Nat → Int32) × (Nat → Int32)) => K r u.1 u.2.1 u.2.2.1 u.2.2.2.1 u.2.2.2.2.1 u.2.2.2.2.2.1 u.2.2.2.2.2.2.1 u.2.2.2.2.2.2.2.1 u.2.2.2.2.2.2.2.2.1 u.2.2.2.2.2.2.2.2.2.1 u.2.2.2.2.2.2.2.2.2.2.1 u.2.2.2.2.2.2.2.2.2.2.2.1 u.2.2.2.2.2.2.2.2.2.2.2.2.1 u.2.2.2.2.2.2.2.2.2.2.2.2.2.1 u.2.2.2.2.2.2.2.2.2.2.2.2.2.2.1 u.2.2.2.2.2.2.2.2.2.2.2.2.2.2.2.1 u.2.2.2.2.2.2.2.2.2.2.2.2.2.2.2.2) (fun (u : Int32 × Int32 × Int32 × Int32 × Int32 × Int32 × Int32 × Int32 × Int32 × Int32 × Int32 × Int32 × (Nat → Int32) × (Nat → Int32) × (Nat → Int32) × (Nat → Int32) × (Nat → Int32)) => (W_X8_job E h0 h1 h2 h3 h4 h5 h6 o0 o1 o2 o3 o4 o5 o6 o7 o8 o9 o10 o11 o12 o13 o14 v_z_length u.1 u.2.1 u.2.2.1 u.2.2.2.1 u.2.2.2.2.1 u.2.2.2.2.2.1 u.2.2.2.2.2.2.1 u.2.2.2.2.2.2.2.1 u.2.2.2.2.2.2.2.2.1 u.2.2.2.2.2.2.2.2.2.1 u.2.2.2.2.2.2.2.2.2.2.1 u.2.2.2.2.2.2.2.2.2.2.2.1 v_text u.2.2.2.2.2.2.2.2.2.2.2.2.1 u.2.2.2.2.2.2.2.2.2.2.2.2.2.1 u.2.2.2.2.2.2.2.2.2.2.2.2.2.2.1 u.2.2.2.2.2.2.2.2.2.2.2.2.2.2.2.1 u.2.2.2.2.2.2.2.2.2.2.2.2.2.2.2.2)) := by
  refine g_entI RX8 (by decide) rfl (Nat.le_of_ble_eq_true rfl) ?_
  intro Γ X hE hl ret
  subst hE
  subst hl
  unfold P_X8_job at h
  show g_G Γ (g_Rm 3 69) 2 0 [(0, .ref h0)] [] (W_X8_job (g_env Γ) h0 h1 h2 h3 h4 h5 h6 o0 o1 o2 o3 o4 o5 o6 o7 o8 o9 o10 o11 o12 o13 o14 v_z_length v_z_dots v_z_cool v_z_power v_z_low v_z_high v_z_ghost v_z_acts v_z_readDots v_z_readCool v_z_readPower v_z_readMany v_z_lineAt v_text v_now v_isKept v_readLevels v_readTable v_readLines)
  refine g_aload_n 0 X dX8_job_0 0 rfl rfl ?_
  refine g_cVI 1 X (st := []) mv_X8_107 dX8_job_1 h0 8 [] (c_X8_readText h0 h1 h4 h5 h6 (.int v_z_dots) (.int v_z_cool) (.int v_z_power) (.int v_z_low) (.int v_z_high) (.int v_z_ghost) (.ref h2) o0 o1 (.int v_z_acts) o2 o3 (.ref h3) o4 o5 o6 o7 o8 o9 o10 o11 o12 o13 o14 v_z_length v_z_readDots v_z_readCool v_z_readPower v_z_readMany v_z_lineAt v_text v_readLevels v_readTable v_readLines h) [0, 1, 4, 5, 6] (fun u : Int32 × Int32 × Int32 × Int32 × Int32 × (Nat → Int32) × (Nat → Int32) × (Nat → Int32) => (W_X8_job (g_env Γ) h0 h1 h2 h3 h4 h5 h6 o0 o1 o2 o3 o4 o5 o6 o7 o8 o9 o10 o11 o12 o13 o14 v_z_length v_z_dots v_z_cool v_z_power v_z_low v_z_high v_z_ghost v_z_acts u.1 u.2.1 u.2.2.1 u.2.2.2.1 u.2.2.2.2.1 v_text v_now v_isKept u.2.2.2.2.2.1 u.2.2.2.2.2.2.1 u.2.2.2.2.2.2.2)) rfl ⟨(Nat.le_of_ble_eq_true rfl), (Nat.le_of_ble_eq_true rfl)⟩ ⟨rfl, rfl⟩ (Nat.le_of_ble_eq_true rfl) rfl rfl rfl (by decide) (fun _ => rfl) (fun _ => rfl) (fun r1 u h => ?_)
  obtain ⟨v_z_readDots_2, v_z_readCool_3, v_z_readPower_4, v_z_readMany_5, v_z_lineAt_6, v_readLevels_7, v_readTable_8, v_readLines_9⟩ := u
  dsimp only at h ⊢
  refine g_bipush 4 X (-9 : Int32) dX8_job_4 k_bp_m9 ?_
  refine g_icmp_eq 6 X 12 dX8_job_6 (by decide) (fun c => ?_) (fun c => ?_)
  · replace h := h.1 c
    refine g_iconst 12 X (0 : Int32) dX8_job_12 k_ic_0 ?_
    refine g_istore_n 13 X [(1, .int (0 : Int32)), (0, .ref h0)] dX8_job_13 rfl (Nat.le_of_ble_eq_true rfl) rfl ?_
    obtain ⟨n25, h⟩ := h
    refine g_sub [(0, .ref h0), (1, .int (0 : Int32))] [1, 0] rfl ?_
    refine l_X8_job_14 X h0 h1 h2 h3 h4 h5 h6 o0 o1 o2 o3 o4 o5 o6 o7 o8 o9 o10 o11 o12 o13 o14 v_z_length v_z_dots v_z_cool v_z_power v_z_low v_z_high v_z_ghost v_z_acts v_z_readDots_2 v_z_readCool_3 v_z_readPower_4 v_z_readMany_5 v_z_lineAt_6 v_text v_isKept v_readLevels_7 v_readTable_8 v_readLines_9 (fun v_now_12 h => ?_) n25 (0 : Int32) v_now h
    · refine g_aload_n 33 X dX8_job_33 0 rfl rfl ?_
      refine g_aload_n 34 X dX8_job_34 0 rfl rfl ?_
      refine g_get 35 X fa_X8_78 dX8_job_35 0 rfl rfl ?_
      refine g_put 38 X (W_X8_job (g_env Γ) h0 h1 h2 h3 h4 h5 h6 o0 o1 o2 o3 o4 o5 o6 o7 o8 o9 o10 o11 o12 o13 o14 v_z_length v_z_readDots_2 v_z_cool v_z_power v_z_low v_z_high v_z_ghost v_z_acts v_z_readDots_2 v_z_readCool_3 v_z_readPower_4 v_z_readMany_5 v_z_lineAt_6 v_text v_now_12 v_isKept v_readLevels_7 v_readTable_8 v_readLines_9) fa_X8_59 pa_8_2 dX8_job_38 0 rfl rfl rfl (Nat.le_of_ble_eq_true rfl) rfl ?_
      refine g_aload_n 41 X dX8_job_41 0 rfl rfl ?_
      refine g_aload_n 42 X dX8_job_42 0 rfl rfl ?_
      refine g_get 43 X fa_X8_83 dX8_job_43 0 rfl rfl ?_
      refine g_put 46 X (W_X8_job (g_env Γ) h0 h1 h2 h3 h4 h5 h6 o0 o1 o2 o3 o4 o5 o6 o7 o8 o9 o10 o11 o12 o13 o14 v_z_length v_z_readDots_2 v_z_readCool_3 v_z_power v_z_low v_z_high v_z_ghost v_z_acts v_z_readDots_2 v_z_readCool_3 v_z_readPower_4 v_z_readMany_5 v_z_lineAt_6 v_text v_now_12 v_isKept v_readLevels_7 v_readTable_8 v_readLines_9) fa_X8_63 pa_8_3 dX8_job_46 0 rfl rfl rfl (Nat.le_of_ble_eq_true rfl) rfl ?_
      refine g_aload_n 49 X dX8_job_49 0 rfl rfl ?_
      refine g_aload_n 50 X dX8_job_50 0 rfl rfl ?_
      refine g_get 51 X fa_X8_88 dX8_job_51 0 rfl rfl ?_
      refine g_put 54 X (W_X8_job (g_env Γ) h0 h1 h2 h3 h4 h5 h6 o0 o1 o2 o3 o4 o5 o6 o7 o8 o9 o10 o11 o12 o13 o14 v_z_length v_z_readDots_2 v_z_readCool_3 v_z_readPower_4 v_z_low v_z_high v_z_ghost v_z_acts v_z_readDots_2 v_z_readCool_3 v_z_readPower_4 v_z_readMany_5 v_z_lineAt_6 v_text v_now_12 v_isKept v_readLevels_7 v_readTable_8 v_readLines_9) fa_X8_66 pa_8_4 dX8_job_54 0 rfl rfl rfl (Nat.le_of_ble_eq_true rfl) rfl ?_
      refine g_aload_n 57 X dX8_job_57 0 rfl rfl ?_
      refine g_aload_n 58 X dX8_job_58 0 rfl rfl ?_
      refine g_get 59 X fa_X8_50 dX8_job_59 0 rfl rfl ?_
      refine g_iconst 62 X (0 : Int32) dX8_job_62 k_ic_0 ?_
      refine g_iald 63 X dX8_job_63 4 rfl rfl (vp_lit (by decide)) ?_
      refine g_put 64 X (W_X8_job (g_env Γ) h0 h1 h2 h3 h4 h5 h6 o0 o1 o2 o3 o4 o5 o6 o7 o8 o9 o10 o11 o12 o13 o14 v_z_length v_z_readDots_2 v_z_readCool_3 v_z_readPower_4 (v_readLevels_7 (Int32.toNatClampNeg (0 : Int32))) v_z_high v_z_ghost v_z_acts v_z_readDots_2 v_z_readCool_3 v_z_readPower_4 v_z_readMany_5 v_z_lineAt_6 v_text v_now_12 v_isKept v_readLevels_7 v_readTable_8 v_readLines_9) fa_X8_111 pa_8_5 dX8_job_64 0 rfl rfl rfl (Nat.le_of_ble_eq_true rfl) rfl ?_
      refine g_aload_n 67 X dX8_job_67 0 rfl rfl ?_
      refine g_aload_n 68 X dX8_job_68 0 rfl rfl ?_
      refine g_get 69 X fa_X8_50 dX8_job_69 0 rfl rfl ?_
      refine g_iconst 72 X (1 : Int32) dX8_job_72 k_ic_1 ?_
      refine g_iald 73 X dX8_job_73 4 rfl rfl (vp_lit (by decide)) ?_
      refine g_put 74 X (W_X8_job (g_env Γ) h0 h1 h2 h3 h4 h5 h6 o0 o1 o2 o3 o4 o5 o6 o7 o8 o9 o10 o11 o12 o13 o14 v_z_length v_z_readDots_2 v_z_readCool_3 v_z_readPower_4 (v_readLevels_7 (Int32.toNatClampNeg (0 : Int32))) (v_readLevels_7 (Int32.toNatClampNeg (1 : Int32))) v_z_ghost v_z_acts v_z_readDots_2 v_z_readCool_3 v_z_readPower_4 v_z_readMany_5 v_z_lineAt_6 v_text v_now_12 v_isKept v_readLevels_7 v_readTable_8 v_readLines_9) fa_X8_114 pa_8_6 dX8_job_74 0 rfl rfl rfl (Nat.le_of_ble_eq_true rfl) rfl ?_
      refine g_aload_n 77 X dX8_job_77 0 rfl rfl ?_
      refine g_aload_n 78 X dX8_job_78 0 rfl rfl ?_
      refine g_get 79 X fa_X8_50 dX8_job_79 0 rfl rfl ?_
      refine g_iconst 82 X (2 : Int32) dX8_job_82 k_ic_2 ?_
      refine g_iald 83 X dX8_job_83 4 rfl rfl (vp_lit (by decide)) ?_
      refine g_put 84 X (W_X8_job (g_env Γ) h0 h1 h2 h3 h4 h5 h6 o0 o1 o2 o3 o4 o5 o6 o7 o8 o9 o10 o11 o12 o13 o14 v_z_length v_z_readDots_2 v_z_readCool_3 v_z_readPower_4 (v_readLevels_7 (Int32.toNatClampNeg (0 : Int32))) (v_readLevels_7 (Int32.toNatClampNeg (1 : Int32))) (v_readLevels_7 (Int32.toNatClampNeg (2 : Int32))) v_z_acts v_z_readDots_2 v_z_readCool_3 v_z_readPower_4 v_z_readMany_5 v_z_lineAt_6 v_text v_now_12 v_isKept v_readLevels_7 v_readTable_8 v_readLines_9) fa_X8_117 pa_8_7 dX8_job_84 0 rfl rfl rfl (Nat.le_of_ble_eq_true rfl) rfl ?_
      refine g_iconst 87 X (0 : Int32) dX8_job_87 k_ic_0 ?_
      refine g_istore_n 88 X [(1, .int (0 : Int32)), (0, .ref h0)] dX8_job_88 rfl (Nat.le_of_ble_eq_true rfl) rfl ?_
      obtain ⟨n24, h⟩ := h
      refine g_sub [(0, .ref h0), (1, .int (0 : Int32))] [1, 0] rfl ?_
      refine l_X8_job_89 X h0 h1 h2 h3 h4 h5 h6 o0 o1 o2 o3 o4 o5 o6 o7 o8 o9 o10 o11 o12 o13 o14 v_z_length v_z_readDots_2 v_z_readCool_3 v_z_readPower_4 (v_readLevels_7 (Int32.toNatClampNeg (0 : Int32))) (v_readLevels_7 (Int32.toNatClampNeg (1 : Int32))) (v_readLevels_7 (Int32.toNatClampNeg (2 : Int32))) v_z_acts v_z_readDots_2 v_z_readCool_3 v_z_readPower_4 v_z_readMany_5 v_z_lineAt_6 v_text v_isKept v_readLevels_7 v_readTable_8 v_readLines_9 (fun v_now_17 h => ?_) n24 (0 : Int32) v_now_12 h
      · refine g_iconst 115 X (0 : Int32) dX8_job_115 k_ic_0 ?_
        refine g_istore_n 116 X [(1, .int (0 : Int32)), (0, .ref h0)] dX8_job_116 rfl (Nat.le_of_ble_eq_true rfl) rfl ?_
        obtain ⟨n23, h⟩ := h
        refine g_sub [(0, .ref h0), (1, .int (0 : Int32))] [1, 0] rfl ?_
        refine l_X8_job_117 X h0 h1 h2 h3 h4 h5 h6 o0 o1 o2 o3 o4 o5 o6 o7 o8 o9 o10 o11 o12 o13 o14 v_z_length v_z_readDots_2 v_z_readCool_3 v_z_readPower_4 (v_readLevels_7 (Int32.toNatClampNeg (0 : Int32))) (v_readLevels_7 (Int32.toNatClampNeg (1 : Int32))) (v_readLevels_7 (Int32.toNatClampNeg (2 : Int32))) v_z_acts v_z_readDots_2 v_z_readCool_3 v_z_readPower_4 v_z_readMany_5 v_z_lineAt_6 v_text v_isKept v_readLevels_7 v_readTable_8 v_readLines_9 (fun v_now_22 h => ?_) n23 (0 : Int32) v_now_17 h
        · refine g_aload_n 146 X dX8_job_146 0 rfl rfl ?_
          refine g_get 147 X fa_X8_13 dX8_job_147 0 rfl rfl ?_
          refine g_bipush 150 X (21 : Int32) dX8_job_150 k_bp_21 ?_
          refine g_aload_n 152 X dX8_job_152 0 rfl rfl ?_
          refine g_get 153 X fa_X8_96 dX8_job_153 0 rfl rfl ?_
          refine g_iast 156 X (W_X8_job (g_env Γ) h0 h1 h2 h3 h4 h5 h6 o0 o1 o2 o3 o4 o5 o6 o7 o8 o9 o10 o11 o12 o13 o14 v_z_length v_z_readDots_2 v_z_readCool_3 v_z_readPower_4 (v_readLevels_7 (Int32.toNatClampNeg (0 : Int32))) (v_readLevels_7 (Int32.toNatClampNeg (1 : Int32))) (v_readLevels_7 (Int32.toNatClampNeg (2 : Int32))) v_z_acts v_z_readDots_2 v_z_readCool_3 v_z_readPower_4 v_z_readMany_5 v_z_lineAt_6 v_text (upd v_now_22 (Int32.toNatClampNeg (21 : Int32)) v_z_readMany_5) v_isKept v_readLevels_7 v_readTable_8 v_readLines_9) dX8_job_156 2 rfl rfl (vp_lit (by decide)) rfl ?_
          refine g_aload_n 157 X dX8_job_157 0 rfl rfl ?_
          refine g_get 158 X fa_X8_13 dX8_job_158 0 rfl rfl ?_
          refine g_bipush 161 X (24 : Int32) dX8_job_161 k_bp_24 ?_
          refine g_bipush 163 X (99 : Int32) dX8_job_163 k_bp_99 ?_
          refine g_iast 165 X (W_X8_job (g_env Γ) h0 h1 h2 h3 h4 h5 h6 o0 o1 o2 o3 o4 o5 o6 o7 o8 o9 o10 o11 o12 o13 o14 v_z_length v_z_readDots_2 v_z_readCool_3 v_z_readPower_4 (v_readLevels_7 (Int32.toNatClampNeg (0 : Int32))) (v_readLevels_7 (Int32.toNatClampNeg (1 : Int32))) (v_readLevels_7 (Int32.toNatClampNeg (2 : Int32))) v_z_acts v_z_readDots_2 v_z_readCool_3 v_z_readPower_4 v_z_readMany_5 v_z_lineAt_6 v_text (upd (upd v_now_22 (Int32.toNatClampNeg (21 : Int32)) v_z_readMany_5) (Int32.toNatClampNeg (24 : Int32)) (99 : Int32)) v_isKept v_readLevels_7 v_readTable_8 v_readLines_9) dX8_job_165 2 rfl rfl (vp_lit (by decide)) rfl ?_
          refine g_aload_n 166 X dX8_job_166 0 rfl rfl ?_
          refine g_iconst 167 X (0 : Int32) dX8_job_167 k_ic_0 ?_
          refine g_put 168 X (W_X8_job (g_env Γ) h0 h1 h2 h3 h4 h5 h6 o0 o1 o2 o3 o4 o5 o6 o7 o8 o9 o10 o11 o12 o13 o14 v_z_length v_z_readDots_2 v_z_readCool_3 v_z_readPower_4 (v_readLevels_7 (Int32.toNatClampNeg (0 : Int32))) (v_readLevels_7 (Int32.toNatClampNeg (1 : Int32))) (v_readLevels_7 (Int32.toNatClampNeg (2 : Int32))) (0 : Int32) v_z_readDots_2 v_z_readCool_3 v_z_readPower_4 v_z_readMany_5 v_z_lineAt_6 v_text (upd (upd v_now_22 (Int32.toNatClampNeg (21 : Int32)) v_z_readMany_5) (Int32.toNatClampNeg (24 : Int32)) (99 : Int32)) v_isKept v_readLevels_7 v_readTable_8 v_readLines_9) fa_X8_120 pa_8_11 dX8_job_168 0 rfl rfl rfl (Nat.le_of_ble_eq_true rfl) rfl ?_
          refine g_aload_n 171 X dX8_job_171 0 rfl rfl ?_
          refine g_get 172 X fa_X8_25 dX8_job_172 0 rfl rfl ?_
          refine g_iconst 175 X (0 : Int32) dX8_job_175 k_ic_0 ?_
          refine g_iconst 176 X (0 : Int32) dX8_job_176 k_ic_0 ?_
          refine g_zast 177 X (W_X8_job (g_env Γ) h0 h1 h2 h3 h4 h5 h6 o0 o1 o2 o3 o4 o5 o6 o7 o8 o9 o10 o11 o12 o13 o14 v_z_length v_z_readDots_2 v_z_readCool_3 v_z_readPower_4 (v_readLevels_7 (Int32.toNatClampNeg (0 : Int32))) (v_readLevels_7 (Int32.toNatClampNeg (1 : Int32))) (v_readLevels_7 (Int32.toNatClampNeg (2 : Int32))) (0 : Int32) v_z_readDots_2 v_z_readCool_3 v_z_readPower_4 v_z_readMany_5 v_z_lineAt_6 v_text (upd (upd v_now_22 (Int32.toNatClampNeg (21 : Int32)) v_z_readMany_5) (Int32.toNatClampNeg (24 : Int32)) (99 : Int32)) (upd v_isKept (Int32.toNatClampNeg (0 : Int32)) (vp_nar .boolean (0 : Int32))) v_readLevels_7 v_readTable_8 v_readLines_9) dX8_job_177 3 rfl rfl (vp_lit (by decide)) rfl ?_
          refine g_aload_n 178 X dX8_job_178 0 rfl rfl ?_
          refine g_get 179 X fa_X8_25 dX8_job_179 0 rfl rfl ?_
          refine g_iconst 182 X (1 : Int32) dX8_job_182 k_ic_1 ?_
          refine g_iconst 183 X (0 : Int32) dX8_job_183 k_ic_0 ?_
          refine g_zast 184 X (W_X8_job (g_env Γ) h0 h1 h2 h3 h4 h5 h6 o0 o1 o2 o3 o4 o5 o6 o7 o8 o9 o10 o11 o12 o13 o14 v_z_length v_z_readDots_2 v_z_readCool_3 v_z_readPower_4 (v_readLevels_7 (Int32.toNatClampNeg (0 : Int32))) (v_readLevels_7 (Int32.toNatClampNeg (1 : Int32))) (v_readLevels_7 (Int32.toNatClampNeg (2 : Int32))) (0 : Int32) v_z_readDots_2 v_z_readCool_3 v_z_readPower_4 v_z_readMany_5 v_z_lineAt_6 v_text (upd (upd v_now_22 (Int32.toNatClampNeg (21 : Int32)) v_z_readMany_5) (Int32.toNatClampNeg (24 : Int32)) (99 : Int32)) (upd (upd v_isKept (Int32.toNatClampNeg (0 : Int32)) (vp_nar .boolean (0 : Int32))) (Int32.toNatClampNeg (1 : Int32)) (vp_nar .boolean (0 : Int32))) v_readLevels_7 v_readTable_8 v_readLines_9) dX8_job_184 3 rfl rfl (vp_lit (by decide)) rfl ?_
          refine g_aload_n 185 X dX8_job_185 0 rfl rfl ?_
          refine g_get 186 X fa_X8_96 dX8_job_186 0 rfl rfl ?_
          exact ret 189 _ _ (v_z_readDots_2, v_z_readCool_3, v_z_readPower_4, (v_readLevels_7 (Int32.toNatClampNeg (0 : Int32))), (v_readLevels_7 (Int32.toNatClampNeg (1 : Int32))), (v_readLevels_7 (Int32.toNatClampNeg (2 : Int32))), (0 : Int32), v_z_readDots_2, v_z_readCool_3, v_z_readPower_4, v_z_readMany_5, v_z_lineAt_6, (upd (upd v_now_22 (Int32.toNatClampNeg (21 : Int32)) v_z_readMany_5) (Int32.toNatClampNeg (24 : Int32)) (99 : Int32)), (upd (upd v_isKept (Int32.toNatClampNeg (0 : Int32)) (vp_nar .boolean (0 : Int32))) (Int32.toNatClampNeg (1 : Int32)) (vp_nar .boolean (0 : Int32))), v_readLevels_7, v_readTable_8, v_readLines_9) dX8_job_189 (vp_nar_int _) h
  · replace h := h.2 c
    refine g_bipush 9 X (-3 : Int32) dX8_job_9 k_bp_m3 ?_
    exact ret 11 _ _ (v_z_dots, v_z_cool, v_z_power, v_z_low, v_z_high, v_z_ghost, v_z_acts, v_z_readDots_2, v_z_readCool_3, v_z_readPower_4, v_z_readMany_5, v_z_lineAt_6, v_now, v_isKept, v_readLevels_7, v_readTable_8, v_readLines_9) dX8_job_11 (vp_nar_int _) h

def W_X8_coolOn (E : g_E) (h0 : Nat) (h1 : Nat) (o0 o1 o2 o3 o4 o5 o6 o7 o8 o9 o10 o11 o12 o13 o14 o15 o16 o17 o18 o19 o20 o21 o22 o23 o24 o25 o26 o27 o28 o29 o30 o31 : Value) (v_z_dots : Int32) (v_z_cool : Int32) (v_p1 : Nat → Int32) : va_W := [(h0, .inr (8, [o0, o1, .int v_z_dots, .int v_z_cool, o2, o3, o4, o5, o6, o7, o8, o9, o10, o11, o12, o13, o14, o15, o16, o17, o18, o19, o20, o21, o22, o23, o24, o25, o26, o27, o28, o29, o30, o31])), (h1, .inl (E.2.1, 30, .inl v_p1))]
def P_X8_coolOn_L2 (v_z_dots : Int32) (v_z_cool : Int32) (C30 : (Nat → Int32) → Prop) : Nat → Int32 → (Nat → Int32) → Prop
  | 0, _, _ => False
  | n + 1, x2, v_p1 => ((v_z_dots ≤ x2 → C30 v_p1) ∧ (¬ v_z_dots ≤ x2 → (vp_in x2 30 ∧ P_X8_coolOn_L2 v_z_dots v_z_cool C30 n (x2 + (1 : Int32)) (upd v_p1 (Int32.toNatClampNeg x2) ((v_p1 (Int32.toNatClampNeg x2)) - ((v_p1 (Int32.toNatClampNeg x2)) >>> (v_z_cool &&& (31 : Int32))))))))
def P_X8_coolOn (v_z_dots : Int32) (v_z_cool : Int32) (v_p1 : Nat → Int32) (K : (Nat → Int32) → Prop) : Prop := (∃ ne : Nat, P_X8_coolOn_L2 v_z_dots v_z_cool (fun v_p1_3 => K v_p1_3) ne (0 : Int32) v_p1)
set_option maxHeartbeats 4000000 in
set_option maxRecDepth 100000 in
theorem l_X8_coolOn_2 {Γ : g_C} (X : g_X Γ (g_Rm 0 0) cX8_coolOn RX8 3) (h0 : Nat) (h1 : Nat) (o0 o1 o2 o3 o4 o5 o6 o7 o8 o9 o10 o11 o12 o13 o14 o15 o16 o17 o18 o19 o20 o21 o22 o23 o24 o25 o26 o27 o28 o29 o30 o31 : Value) (v_z_dots : Int32) (v_z_cool : Int32) {C30 : (Nat → Int32) → Prop} (hC30 : ∀ (v_p1 : Nat → Int32), C30 v_p1 → g_G Γ (g_Rm 0 0) 3 30 [] [] (W_X8_coolOn (g_env Γ) h0 h1 o0 o1 o2 o3 o4 o5 o6 o7 o8 o9 o10 o11 o12 o13 o14 o15 o16 o17 o18 o19 o20 o21 o22 o23 o24 o25 o26 o27 o28 o29 o30 o31 v_z_dots v_z_cool v_p1)) : ∀ (n : Nat) (x2 : Int32) (v_p1 : Nat → Int32), P_X8_coolOn_L2 v_z_dots v_z_cool C30 n x2 v_p1 → g_G Γ (g_Rm 0 0) 3 2 [(0, .ref h0), (1, .ref h1), (2, .int x2)] [] (W_X8_coolOn (g_env Γ) h0 h1 o0 o1 o2 o3 o4 o5 o6 o7 o8 o9 o10 o11 o12 o13 o14 o15 o16 o17 o18 o19 o20 o21 o22 o23 o24 o25 o26 o27 o28 o29 o30 o31 v_z_dots v_z_cool v_p1) := by
  intro n
  induction n with
  | zero => intro x2 v_p1 h; exact False.elim h
  | succ n ih =>
    intro x2 v_p1 h
    unfold P_X8_coolOn_L2 at h
    refine g_iload_n 2 X dX8_coolOn_2 2 rfl rfl ?_
    refine g_aload_n 3 X dX8_coolOn_3 0 rfl rfl ?_
    refine g_get 4 X fa_X8_59 dX8_coolOn_4 0 rfl rfl ?_
    refine g_icmp_ge 7 X 30 dX8_coolOn_7 (by decide) (fun c => ?_) (fun c => ?_)
    · replace h := h.1 c
      refine g_sub [] [] rfl ?_
      exact hC30 v_p1 h
    · replace h := h.2 c
      refine g_aload_n 10 X dX8_coolOn_10 1 rfl rfl ?_
      refine g_iload_n 11 X dX8_coolOn_11 2 rfl rfl ?_
      refine g_dup2 12 X dX8_coolOn_12 rfl rfl ?_
      have f2 := h.1; replace h := h.2
      refine g_iald 13 X dX8_coolOn_13 1 rfl rfl f2 ?_
      refine g_aload_n 14 X dX8_coolOn_14 1 rfl rfl ?_
      refine g_iload_n 15 X dX8_coolOn_15 2 rfl rfl ?_
      refine g_iald 16 X dX8_coolOn_16 1 rfl rfl f2 ?_
      refine g_aload_n 17 X dX8_coolOn_17 0 rfl rfl ?_
      refine g_get 18 X fa_X8_63 dX8_coolOn_18 0 rfl rfl ?_
      refine g_ishr 21 X dX8_coolOn_21 ?_
      refine g_isub 22 X dX8_coolOn_22 ?_
      refine g_iast 23 X (W_X8_coolOn (g_env Γ) h0 h1 o0 o1 o2 o3 o4 o5 o6 o7 o8 o9 o10 o11 o12 o13 o14 o15 o16 o17 o18 o19 o20 o21 o22 o23 o24 o25 o26 o27 o28 o29 o30 o31 v_z_dots v_z_cool (upd v_p1 (Int32.toNatClampNeg x2) ((v_p1 (Int32.toNatClampNeg x2)) - ((v_p1 (Int32.toNatClampNeg x2)) >>> (v_z_cool &&& (31 : Int32)))))) dX8_coolOn_23 1 rfl rfl f2 rfl ?_
      refine g_iinc 24 X (x2 + (1 : Int32)) [(2, .int (x2 + (1 : Int32))), (0, .ref h0), (1, .ref h1)] dX8_coolOn_24 2 rfl (k_ii_1 _) (Nat.le_of_ble_eq_true rfl) rfl ?_
      refine g_goto 27 X 2 dX8_coolOn_27 (by decide) ?_
      refine g_sub [(0, .ref h0), (1, .ref h1), (2, .int (x2 + (1 : Int32)))] [1, 2, 0] rfl ?_
      exact ih (x2 + (1 : Int32)) (upd v_p1 (Int32.toNatClampNeg x2) ((v_p1 (Int32.toNatClampNeg x2)) - ((v_p1 (Int32.toNatClampNeg x2)) >>> (v_z_cool &&& (31 : Int32))))) h
set_option maxHeartbeats 4000000 in
set_option maxRecDepth 100000 in
theorem c_X8_coolOn {l : Launch} {E : g_E} (h0 : Nat) (h1 : Nat) (o0 o1 o2 o3 o4 o5 o6 o7 o8 o9 o10 o11 o12 o13 o14 o15 o16 o17 o18 o19 o20 o21 o22 o23 o24 o25 o26 o27 o28 o29 o30 o31 : Value) (v_z_dots : Int32) (v_z_cool : Int32) (v_p1 : Nat → Int32) {K : (Nat → Int32) → Prop} (h : P_X8_coolOn v_z_dots v_z_cool v_p1 K) : g_CV l E yX8_coolOn cX8_coolOn 3 (g_Rm 0 0) [.ref h0, .ref h1] (W_X8_coolOn E h0 h1 o0 o1 o2 o3 o4 o5 o6 o7 o8 o9 o10 o11 o12 o13 o14 o15 o16 o17 o18 o19 o20 o21 o22 o23 o24 o25 o26 o27 o28 o29 o30 o31 v_z_dots v_z_cool v_p1) (fun (u : (Nat → Int32)) => K u) (fun (u : (Nat → Int32)) => (W_X8_coolOn E h0 h1 o0 o1 o2 o3 o4 o5 o6 o7 o8 o9 o10 o11 o12 o13 o14 o15 o16 o17 o18 o19 o20 o21 o22 o23 o24 o25 o26 o27 o28 o29 o30 o31 v_z_dots v_z_cool u)) := by
  refine g_entV RX8 (by decide) rfl (Nat.le_of_ble_eq_true rfl) ?_
  intro Γ X hE hl ret
  subst hE
  subst hl
  unfold P_X8_coolOn at h
  show g_G Γ (g_Rm 0 0) 3 0 [(0, .ref h0), (1, .ref h1)] [] (W_X8_coolOn (g_env Γ) h0 h1 o0 o1 o2 o3 o4 o5 o6 o7 o8 o9 o10 o11 o12 o13 o14 o15 o16 o17 o18 o19 o20 o21 o22 o23 o24 o25 o26 o27 o28 o29 o30 o31 v_z_dots v_z_cool v_p1)
  refine g_iconst 0 X (0 : Int32) dX8_coolOn_0 k_ic_0 ?_
  refine g_istore_n 1 X [(2, .int (0 : Int32)), (0, .ref h0), (1, .ref h1)] dX8_coolOn_1 rfl (Nat.le_of_ble_eq_true rfl) rfl ?_
  obtain ⟨n4, h⟩ := h
  refine g_sub [(0, .ref h0), (1, .ref h1), (2, .int (0 : Int32))] [1, 2, 0] rfl ?_
  refine l_X8_coolOn_2 X h0 h1 o0 o1 o2 o3 o4 o5 o6 o7 o8 o9 o10 o11 o12 o13 o14 o15 o16 o17 o18 o19 o20 o21 o22 o23 o24 o25 o26 o27 o28 o29 o30 o31 v_z_dots v_z_cool (fun v_p1_3 h => ?_) n4 (0 : Int32) v_p1 h
  · exact ret 30 _ (v_p1_3) dX8_coolOn_30 h

def W_X8_bit (E : g_E) : va_W := []
def P_X8_bit (b0 : Int32) (K : Int32 → Prop) : Prop := ((b0 = (0 : Int32) → K (0 : Int32)) ∧ (¬ b0 = (0 : Int32) → K (1 : Int32)))
set_option maxHeartbeats 4000000 in
set_option maxRecDepth 100000 in
theorem c_X8_bit {l : Launch} {E : g_E} (b0 : Int32) {K : Int32 → Prop} (h : P_X8_bit b0 K) : g_CI l E yX8_bit cX8_bit 1 .int (g_Rm 0 0) [.int b0] (W_X8_bit E) (fun r (u : Unit) => K r) (fun (u : Unit) => (W_X8_bit E)) := by
  refine g_entI RX8 (by decide) rfl (Nat.le_of_ble_eq_true rfl) ?_
  intro Γ X hE hl ret
  subst hE
  subst hl
  unfold P_X8_bit at h
  show g_G Γ (g_Rm 0 0) 1 0 [(0, .int b0)] [] (W_X8_bit (g_env Γ))
  refine g_iload_n 0 X dX8_bit_0 0 rfl rfl ?_
  refine g_if_eq 1 X 8 dX8_bit_1 (by decide) (fun c => ?_) (fun c => ?_)
  · replace h := h.1 c
    refine g_iconst 8 X (0 : Int32) dX8_bit_8 k_ic_0 ?_
    exact ret 9 _ _ () dX8_bit_9 (vp_nar_int _) h
  · replace h := h.2 c
    refine g_iconst 4 X (1 : Int32) dX8_bit_4 k_ic_1 ?_
    refine g_goto 5 X 9 dX8_bit_5 (by decide) ?_
    exact ret 9 _ _ () dX8_bit_9 (vp_nar_int _) h

def W_X8_layPulses (E : g_E) (h0 : Nat) (h1 : Nat) (h2 : Nat) (o0 o1 o2 o3 o4 o5 o6 o7 o8 o9 o10 o11 o12 o13 o14 o15 o16 o17 o18 o19 o20 o21 o22 o23 o24 o25 o26 o27 o28 o29 o30 o31 : Value) (v_z_dots : Int32) (v_pulses : Nat → Int32) (v_p1 : Nat → Int32) : va_W := [(h0, .inr (8, [o0, o1, .int v_z_dots, o2, o3, o4, o5, o6, o7, o8, o9, o10, o11, o12, o13, o14, o15, o16, o17, o18, o19, .ref h1, o20, o21, o22, o23, o24, o25, o26, o27, o28, o29, o30, o31])), (h1, .inl (E.2.1, 8, .inl v_pulses)), (h2, .inl (E.2.1, 30, .inl v_p1))]
def P_X8_layPulses_L3 (v_z_dots : Int32) (v_p1 : Nat → Int32) (x2 : Int32) (x3 : Int32) (x4 : Int32) (C92 : (Nat → Int32) → Prop) : Nat → Int32 → (Nat → Int32) → Prop
  | 0, _, _ => False
  | n + 1, x5, v_pulses => ((v_z_dots ≤ x5 → C92 v_pulses) ∧ (¬ v_z_dots ≤ x5 → (P_X8_has x2 (x5 - (1 : Int32)) (fun r1 => (P_X8_bit r1 (fun r2 => (P_X8_has x2 (x5 + (1 : Int32)) (fun r3 => (P_X8_bit r3 (fun r4 => (P_X8_has x3 x5 (fun r5 => (P_X8_bit r5 (fun r6 => (P_X8_has x4 x5 (fun r7 => (P_X8_bit r7 (fun r8 => (P_X8_has x2 x5 (fun r9 => ((r9 = (0 : Int32) → (vp_in x5 8 ∧ P_X8_layPulses_L3 v_z_dots v_p1 x2 x3 x4 C92 n (x5 + (1 : Int32)) (upd v_pulses (Int32.toNatClampNeg x5) (-9 : Int32)))) ∧ (¬ r9 = (0 : Int32) → (vp_in ((8 : Int32) + (((r2 + r4) + r6) + r8)) 30 ∧ (vp_in x5 8 ∧ P_X8_layPulses_L3 v_z_dots v_p1 x2 x3 x4 C92 n (x5 + (1 : Int32)) (upd v_pulses (Int32.toNatClampNeg x5) (v_p1 (Int32.toNatClampNeg ((8 : Int32) + (((r2 + r4) + r6) + r8)))))))))))))))))))))))))))))
def P_X8_layPulses (b2 : Int32) (b3 : Int32) (b4 : Int32) (v_z_dots : Int32) (v_pulses : Nat → Int32) (v_p1 : Nat → Int32) (K : (Nat → Int32) → Prop) : Prop := (∃ ne : Nat, P_X8_layPulses_L3 v_z_dots v_p1 b2 b3 b4 (fun v_pulses_25 => K v_pulses_25) ne (0 : Int32) v_pulses)
set_option maxHeartbeats 4000000 in
set_option maxRecDepth 100000 in
theorem l_X8_layPulses_3 {Γ : g_C} (X : g_X Γ (g_Rm 1 21) cX8_layPulses RX8 7) (h0 : Nat) (h1 : Nat) (h2 : Nat) (o0 o1 o2 o3 o4 o5 o6 o7 o8 o9 o10 o11 o12 o13 o14 o15 o16 o17 o18 o19 o20 o21 o22 o23 o24 o25 o26 o27 o28 o29 o30 o31 : Value) (v_z_dots : Int32) (v_p1 : Nat → Int32) (x2 : Int32) (x3 : Int32) (x4 : Int32) {C92 : (Nat → Int32) → Prop} (hC92 : ∀ (v_pulses : Nat → Int32), C92 v_pulses → g_G Γ (g_Rm 1 21) 7 92 [] [] (W_X8_layPulses (g_env Γ) h0 h1 h2 o0 o1 o2 o3 o4 o5 o6 o7 o8 o9 o10 o11 o12 o13 o14 o15 o16 o17 o18 o19 o20 o21 o22 o23 o24 o25 o26 o27 o28 o29 o30 o31 v_z_dots v_pulses v_p1)) : ∀ (n : Nat) (x5 : Int32) (v_pulses : Nat → Int32), P_X8_layPulses_L3 v_z_dots v_p1 x2 x3 x4 C92 n x5 v_pulses → g_G Γ (g_Rm 1 21) 7 3 [(0, .ref h0), (1, .ref h2), (2, .int x2), (3, .int x3), (4, .int x4), (5, .int x5)] [] (W_X8_layPulses (g_env Γ) h0 h1 h2 o0 o1 o2 o3 o4 o5 o6 o7 o8 o9 o10 o11 o12 o13 o14 o15 o16 o17 o18 o19 o20 o21 o22 o23 o24 o25 o26 o27 o28 o29 o30 o31 v_z_dots v_pulses v_p1) := by
  intro n
  induction n with
  | zero => intro x5 v_pulses h; exact False.elim h
  | succ n ih =>
    intro x5 v_pulses h
    unfold P_X8_layPulses_L3 at h
    refine g_iload 3 X dX8_layPulses_3 5 rfl ?_
    refine g_aload_n 5 X dX8_layPulses_5 0 rfl rfl ?_
    refine g_get 6 X fa_X8_59 dX8_layPulses_6 0 rfl rfl ?_
    refine g_icmp_ge 9 X 92 dX8_layPulses_9 (by decide) (fun c => ?_) (fun c => ?_)
    · replace h := h.1 c
      refine g_sub [] [] rfl ?_
      exact hC92 v_pulses h
    · replace h := h.2 c
      refine g_iload_n 12 X dX8_layPulses_12 2 rfl rfl ?_
      refine g_iload 13 X dX8_layPulses_13 5 rfl ?_
      refine g_iconst 15 X (1 : Int32) dX8_layPulses_15 k_ic_1 ?_
      refine g_isub 16 X dX8_layPulses_16 ?_
      refine g_cSI 17 X (st := []) mv_X8_123 dX8_layPulses_17 [.int x2, .int (x5 - (1 : Int32))] (c_X8_has x2 (x5 - (1 : Int32)) h) [] (fun u : Unit => (W_X8_layPulses (g_env Γ) h0 h1 h2 o0 o1 o2 o3 o4 o5 o6 o7 o8 o9 o10 o11 o12 o13 o14 o15 o16 o17 o18 o19 o20 o21 o22 o23 o24 o25 o26 o27 o28 o29 o30 o31 v_z_dots v_pulses v_p1)) rfl ⟨(Nat.le_of_ble_eq_true rfl), (Nat.le_of_ble_eq_true rfl)⟩ ⟨rfl, rfl⟩ (Nat.le_of_ble_eq_true rfl) rfl (by decide) (fun _ => rfl) (fun _ => rfl) (fun r13 u h => ?_)
      refine g_cSI 20 X (st := []) mv_X8_126 dX8_layPulses_20 [.int r13] (c_X8_bit r13 h) [] (fun u : Unit => (W_X8_layPulses (g_env Γ) h0 h1 h2 o0 o1 o2 o3 o4 o5 o6 o7 o8 o9 o10 o11 o12 o13 o14 o15 o16 o17 o18 o19 o20 o21 o22 o23 o24 o25 o26 o27 o28 o29 o30 o31 v_z_dots v_pulses v_p1)) rfl ⟨(Nat.le_of_ble_eq_true rfl), (Nat.le_of_ble_eq_true rfl)⟩ ⟨rfl, rfl⟩ (Nat.le_of_ble_eq_true rfl) rfl (by decide) (fun _ => rfl) (fun _ => rfl) (fun r14 u h => ?_)
      refine g_iload_n 23 X dX8_layPulses_23 2 rfl rfl ?_
      refine g_iload 24 X dX8_layPulses_24 5 rfl ?_
      refine g_iconst 26 X (1 : Int32) dX8_layPulses_26 k_ic_1 ?_
      refine g_iadd 27 X dX8_layPulses_27 ?_
      refine g_cSI 28 X (st := [.int r14]) mv_X8_123 dX8_layPulses_28 [.int x2, .int (x5 + (1 : Int32))] (c_X8_has x2 (x5 + (1 : Int32)) h) [] (fun u : Unit => (W_X8_layPulses (g_env Γ) h0 h1 h2 o0 o1 o2 o3 o4 o5 o6 o7 o8 o9 o10 o11 o12 o13 o14 o15 o16 o17 o18 o19 o20 o21 o22 o23 o24 o25 o26 o27 o28 o29 o30 o31 v_z_dots v_pulses v_p1)) rfl ⟨(Nat.le_of_ble_eq_true rfl), (Nat.le_of_ble_eq_true rfl)⟩ ⟨rfl, rfl⟩ (Nat.le_of_ble_eq_true rfl) rfl (by decide) (fun _ => rfl) (fun _ => rfl) (fun r15 u h => ?_)
      refine g_cSI 31 X (st := [.int r14]) mv_X8_126 dX8_layPulses_31 [.int r15] (c_X8_bit r15 h) [] (fun u : Unit => (W_X8_layPulses (g_env Γ) h0 h1 h2 o0 o1 o2 o3 o4 o5 o6 o7 o8 o9 o10 o11 o12 o13 o14 o15 o16 o17 o18 o19 o20 o21 o22 o23 o24 o25 o26 o27 o28 o29 o30 o31 v_z_dots v_pulses v_p1)) rfl ⟨(Nat.le_of_ble_eq_true rfl), (Nat.le_of_ble_eq_true rfl)⟩ ⟨rfl, rfl⟩ (Nat.le_of_ble_eq_true rfl) rfl (by decide) (fun _ => rfl) (fun _ => rfl) (fun r16 u h => ?_)
      refine g_iadd 34 X dX8_layPulses_34 ?_
      refine g_iload_n 35 X dX8_layPulses_35 3 rfl rfl ?_
      refine g_iload 36 X dX8_layPulses_36 5 rfl ?_
      refine g_cSI 38 X (st := [.int (r14 + r16)]) mv_X8_123 dX8_layPulses_38 [.int x3, .int x5] (c_X8_has x3 x5 h) [] (fun u : Unit => (W_X8_layPulses (g_env Γ) h0 h1 h2 o0 o1 o2 o3 o4 o5 o6 o7 o8 o9 o10 o11 o12 o13 o14 o15 o16 o17 o18 o19 o20 o21 o22 o23 o24 o25 o26 o27 o28 o29 o30 o31 v_z_dots v_pulses v_p1)) rfl ⟨(Nat.le_of_ble_eq_true rfl), (Nat.le_of_ble_eq_true rfl)⟩ ⟨rfl, rfl⟩ (Nat.le_of_ble_eq_true rfl) rfl (by decide) (fun _ => rfl) (fun _ => rfl) (fun r17 u h => ?_)
      refine g_cSI 41 X (st := [.int (r14 + r16)]) mv_X8_126 dX8_layPulses_41 [.int r17] (c_X8_bit r17 h) [] (fun u : Unit => (W_X8_layPulses (g_env Γ) h0 h1 h2 o0 o1 o2 o3 o4 o5 o6 o7 o8 o9 o10 o11 o12 o13 o14 o15 o16 o17 o18 o19 o20 o21 o22 o23 o24 o25 o26 o27 o28 o29 o30 o31 v_z_dots v_pulses v_p1)) rfl ⟨(Nat.le_of_ble_eq_true rfl), (Nat.le_of_ble_eq_true rfl)⟩ ⟨rfl, rfl⟩ (Nat.le_of_ble_eq_true rfl) rfl (by decide) (fun _ => rfl) (fun _ => rfl) (fun r18 u h => ?_)
      refine g_iadd 44 X dX8_layPulses_44 ?_
      refine g_iload 45 X dX8_layPulses_45 4 rfl ?_
      refine g_iload 47 X dX8_layPulses_47 5 rfl ?_
      refine g_cSI 49 X (st := [.int ((r14 + r16) + r18)]) mv_X8_123 dX8_layPulses_49 [.int x4, .int x5] (c_X8_has x4 x5 h) [] (fun u : Unit => (W_X8_layPulses (g_env Γ) h0 h1 h2 o0 o1 o2 o3 o4 o5 o6 o7 o8 o9 o10 o11 o12 o13 o14 o15 o16 o17 o18 o19 o20 o21 o22 o23 o24 o25 o26 o27 o28 o29 o30 o31 v_z_dots v_pulses v_p1)) rfl ⟨(Nat.le_of_ble_eq_true rfl), (Nat.le_of_ble_eq_true rfl)⟩ ⟨rfl, rfl⟩ (Nat.le_of_ble_eq_true rfl) rfl (by decide) (fun _ => rfl) (fun _ => rfl) (fun r19 u h => ?_)
      refine g_cSI 52 X (st := [.int ((r14 + r16) + r18)]) mv_X8_126 dX8_layPulses_52 [.int r19] (c_X8_bit r19 h) [] (fun u : Unit => (W_X8_layPulses (g_env Γ) h0 h1 h2 o0 o1 o2 o3 o4 o5 o6 o7 o8 o9 o10 o11 o12 o13 o14 o15 o16 o17 o18 o19 o20 o21 o22 o23 o24 o25 o26 o27 o28 o29 o30 o31 v_z_dots v_pulses v_p1)) rfl ⟨(Nat.le_of_ble_eq_true rfl), (Nat.le_of_ble_eq_true rfl)⟩ ⟨rfl, rfl⟩ (Nat.le_of_ble_eq_true rfl) rfl (by decide) (fun _ => rfl) (fun _ => rfl) (fun r20 u h => ?_)
      refine g_iadd 55 X dX8_layPulses_55 ?_
      refine g_istore 56 X [(6, .int (((r14 + r16) + r18) + r20)), (0, .ref h0), (1, .ref h2), (2, .int x2), (3, .int x3), (4, .int x4), (5, .int x5)] dX8_layPulses_56 (Nat.le_of_ble_eq_true rfl) rfl ?_
      refine g_aload_n 58 X dX8_layPulses_58 1 rfl rfl ?_
      refine g_get 59 X fa_X8_38 dX8_layPulses_59 0 rfl rfl ?_
      refine g_iload 62 X dX8_layPulses_62 6 rfl ?_
      refine g_iload_n 64 X dX8_layPulses_64 3 rfl rfl ?_
      refine g_iload 65 X dX8_layPulses_65 6 rfl ?_
      refine g_cSI 67 X (st := [.int x5, .ref h1]) mv_X8_123 dX8_layPulses_67 [.int x2, .int x5] (c_X8_has x2 x5 h) [] (fun u : Unit => (W_X8_layPulses (g_env Γ) h0 h1 h2 o0 o1 o2 o3 o4 o5 o6 o7 o8 o9 o10 o11 o12 o13 o14 o15 o16 o17 o18 o19 o20 o21 o22 o23 o24 o25 o26 o27 o28 o29 o30 o31 v_z_dots v_pulses v_p1)) rfl ⟨(Nat.le_of_ble_eq_true rfl), (Nat.le_of_ble_eq_true rfl)⟩ ⟨rfl, rfl⟩ (Nat.le_of_ble_eq_true rfl) rfl (by decide) (fun _ => rfl) (fun _ => rfl) (fun r21 u h => ?_)
      refine g_if_eq 70 X 83 dX8_layPulses_70 (by decide) (fun c => ?_) (fun c => ?_)
      · replace h := h.1 c
        refine g_bipush 83 X (-9 : Int32) dX8_layPulses_83 k_bp_m9 ?_
        have f22 := h.1; replace h := h.2
        refine g_iast 85 X (W_X8_layPulses (g_env Γ) h0 h1 h2 o0 o1 o2 o3 o4 o5 o6 o7 o8 o9 o10 o11 o12 o13 o14 o15 o16 o17 o18 o19 o20 o21 o22 o23 o24 o25 o26 o27 o28 o29 o30 o31 v_z_dots (upd v_pulses (Int32.toNatClampNeg x5) (-9 : Int32)) v_p1) dX8_layPulses_85 1 rfl rfl f22 rfl ?_
        refine g_iinc 86 X (x5 + (1 : Int32)) [(5, .int (x5 + (1 : Int32))), (6, .int (((r14 + r16) + r18) + r20)), (0, .ref h0), (1, .ref h2), (2, .int x2), (3, .int x3), (4, .int x4)] dX8_layPulses_86 6 rfl (k_ii_1 _) (Nat.le_of_ble_eq_true rfl) rfl ?_
        refine g_goto 89 X 3 dX8_layPulses_89 (by decide) ?_
        refine g_sub [(0, .ref h0), (1, .ref h2), (2, .int x2), (3, .int x3), (4, .int x4), (5, .int (x5 + (1 : Int32)))] [2, 3, 4, 5, 6, 0] rfl ?_
        exact ih (x5 + (1 : Int32)) (upd v_pulses (Int32.toNatClampNeg x5) (-9 : Int32)) h
      · replace h := h.2 c
        refine g_aload_n 73 X dX8_layPulses_73 2 rfl rfl ?_
        refine g_bipush 74 X (8 : Int32) dX8_layPulses_74 k_bp_8 ?_
        refine g_iload 76 X dX8_layPulses_76 0 rfl ?_
        refine g_iadd 78 X dX8_layPulses_78 ?_
        have f23 := h.1; replace h := h.2
        refine g_iald 79 X dX8_layPulses_79 2 rfl rfl f23 ?_
        refine g_goto 80 X 85 dX8_layPulses_80 (by decide) ?_
        have f24 := h.1; replace h := h.2
        refine g_iast 85 X (W_X8_layPulses (g_env Γ) h0 h1 h2 o0 o1 o2 o3 o4 o5 o6 o7 o8 o9 o10 o11 o12 o13 o14 o15 o16 o17 o18 o19 o20 o21 o22 o23 o24 o25 o26 o27 o28 o29 o30 o31 v_z_dots (upd v_pulses (Int32.toNatClampNeg x5) (v_p1 (Int32.toNatClampNeg ((8 : Int32) + (((r14 + r16) + r18) + r20))))) v_p1) dX8_layPulses_85 1 rfl rfl f24 rfl ?_
        refine g_iinc 86 X (x5 + (1 : Int32)) [(5, .int (x5 + (1 : Int32))), (6, .int (((r14 + r16) + r18) + r20)), (0, .ref h0), (1, .ref h2), (2, .int x2), (3, .int x3), (4, .int x4)] dX8_layPulses_86 6 rfl (k_ii_1 _) (Nat.le_of_ble_eq_true rfl) rfl ?_
        refine g_goto 89 X 3 dX8_layPulses_89 (by decide) ?_
        refine g_sub [(0, .ref h0), (1, .ref h2), (2, .int x2), (3, .int x3), (4, .int x4), (5, .int (x5 + (1 : Int32)))] [2, 3, 4, 5, 6, 0] rfl ?_
        exact ih (x5 + (1 : Int32)) (upd v_pulses (Int32.toNatClampNeg x5) (v_p1 (Int32.toNatClampNeg ((8 : Int32) + (((r14 + r16) + r18) + r20))))) h
set_option maxHeartbeats 4000000 in
set_option maxRecDepth 100000 in
theorem c_X8_layPulses {l : Launch} {E : g_E} (h0 : Nat) (h1 : Nat) (h2 : Nat) (o0 o1 o2 o3 o4 o5 o6 o7 o8 o9 o10 o11 o12 o13 o14 o15 o16 o17 o18 o19 o20 o21 o22 o23 o24 o25 o26 o27 o28 o29 o30 o31 : Value) (v_z_dots : Int32) (v_pulses : Nat → Int32) (v_p1 : Nat → Int32) (b2 : Int32) (b3 : Int32) (b4 : Int32) {K : (Nat → Int32) → Prop} (h : P_X8_layPulses b2 b3 b4 v_z_dots v_pulses v_p1 K) : g_CV l E yX8_layPulses cX8_layPulses 7 (g_Rm 1 21) [.ref h0, .ref h2, .int b2, .int b3, .int b4] (W_X8_layPulses E h0 h1 h2 o0 o1 o2 o3 o4 o5 o6 o7 o8 o9 o10 o11 o12 o13 o14 o15 o16 o17 o18 o19 o20 o21 o22 o23 o24 o25 o26 o27 o28 o29 o30 o31 v_z_dots v_pulses v_p1) (fun (u : (Nat → Int32)) => K u) (fun (u : (Nat → Int32)) => (W_X8_layPulses E h0 h1 h2 o0 o1 o2 o3 o4 o5 o6 o7 o8 o9 o10 o11 o12 o13 o14 o15 o16 o17 o18 o19 o20 o21 o22 o23 o24 o25 o26 o27 o28 o29 o30 o31 v_z_dots u v_p1)) := by
  refine g_entV RX8 (by decide) rfl (Nat.le_of_ble_eq_true rfl) ?_
  intro Γ X hE hl ret
  subst hE
  subst hl
  unfold P_X8_layPulses at h
  show g_G Γ (g_Rm 1 21) 7 0 [(0, .ref h0), (1, .ref h2), (2, .int b2), (3, .int b3), (4, .int b4)] [] (W_X8_layPulses (g_env Γ) h0 h1 h2 o0 o1 o2 o3 o4 o5 o6 o7 o8 o9 o10 o11 o12 o13 o14 o15 o16 o17 o18 o19 o20 o21 o22 o23 o24 o25 o26 o27 o28 o29 o30 o31 v_z_dots v_pulses v_p1)
  refine g_iconst 0 X (0 : Int32) dX8_layPulses_0 k_ic_0 ?_
  refine g_istore 1 X [(5, .int (0 : Int32)), (0, .ref h0), (1, .ref h2), (2, .int b2), (3, .int b3), (4, .int b4)] dX8_layPulses_1 (Nat.le_of_ble_eq_true rfl) rfl ?_
  obtain ⟨n26, h⟩ := h
  refine g_sub [(0, .ref h0), (1, .ref h2), (2, .int b2), (3, .int b3), (4, .int b4), (5, .int (0 : Int32))] [1, 2, 3, 4, 5, 0] rfl ?_
  refine l_X8_layPulses_3 X h0 h1 h2 o0 o1 o2 o3 o4 o5 o6 o7 o8 o9 o10 o11 o12 o13 o14 o15 o16 o17 o18 o19 o20 o21 o22 o23 o24 o25 o26 o27 o28 o29 o30 o31 v_z_dots v_p1 b2 b3 b4 (fun v_pulses_25 h => ?_) n26 (0 : Int32) v_pulses h
  · exact ret 92 _ (v_pulses_25) dX8_layPulses_92 h

def W_X8_heatOn (E : g_E) (h0 : Nat) (h1 : Nat) (h2 : Nat) (o0 o1 o2 o3 o4 o5 o6 o7 o8 o9 o10 o11 o12 o13 o14 o15 o16 o17 o18 o19 o20 o21 o22 o23 o24 o25 o26 o27 o28 o29 o30 : Value) (v_z_dots : Int32) (v_z_dead : Int32) (v_pulses : Nat → Int32) (v_p1 : Nat → Int32) : va_W := [(h0, .inr (8, [o0, o1, .int v_z_dots, o2, o3, o4, o5, o6, o7, o8, o9, o10, o11, o12, o13, o14, o15, o16, o17, o18, .int v_z_dead, .ref h1, o19, o20, o21, o22, o23, o24, o25, o26, o27, o28, o29, o30])), (h1, .inl (E.2.1, 8, .inl v_pulses)), (h2, .inl (E.2.1, 30, .inl v_p1))]
def P_X8_heatOn_L2 (v_z_dots : Int32) (v_z_dead : Int32) (v_pulses : Nat → Int32) (C99 : (Nat → Int32) → Prop) : Nat → Int32 → (Nat → Int32) → Prop
  | 0, _, _ => False
  | n + 1, x2, v_p1 => ((v_z_dots ≤ x2 → C99 v_p1) ∧ (¬ v_z_dots ≤ x2 → (vp_in x2 8 ∧ (((v_pulses (Int32.toNatClampNeg x2)) = (-9 : Int32) → P_X8_heatOn_L2 v_z_dots v_z_dead v_pulses C99 n (x2 + (1 : Int32)) v_p1) ∧ (¬ (v_pulses (Int32.toNatClampNeg x2)) = (-9 : Int32) → (P_X8_has v_z_dead x2 (fun r2 => ((¬ r2 = (0 : Int32) → P_X8_heatOn_L2 v_z_dots v_z_dead v_pulses C99 n (x2 + (1 : Int32)) v_p1) ∧ (r2 = (0 : Int32) → (vp_in x2 30 ∧ ((x2 ≤ (0 : Int32) → ((v_z_dots ≤ (x2 + (1 : Int32)) → P_X8_heatOn_L2 v_z_dots v_z_dead v_pulses C99 n (x2 + (1 : Int32)) (upd v_p1 (Int32.toNatClampNeg x2) ((v_p1 (Int32.toNatClampNeg x2)) + ((10 : Int32) * (v_pulses (Int32.toNatClampNeg x2)))))) ∧ (¬ v_z_dots ≤ (x2 + (1 : Int32)) → (vp_in (x2 + (1 : Int32)) 30 ∧ P_X8_heatOn_L2 v_z_dots v_z_dead v_pulses C99 n (x2 + (1 : Int32)) (upd (upd v_p1 (Int32.toNatClampNeg x2) ((v_p1 (Int32.toNatClampNeg x2)) + ((10 : Int32) * (v_pulses (Int32.toNatClampNeg x2))))) (Int32.toNatClampNeg (x2 + (1 : Int32))) (((upd v_p1 (Int32.toNatClampNeg x2) ((v_p1 (Int32.toNatClampNeg x2)) + ((10 : Int32) * (v_pulses (Int32.toNatClampNeg x2))))) (Int32.toNatClampNeg (x2 + (1 : Int32)))) + ((2 : Int32) * (v_pulses (Int32.toNatClampNeg x2))))))))) ∧ (¬ x2 ≤ (0 : Int32) → (vp_in (x2 - (1 : Int32)) 30 ∧ ((v_z_dots ≤ (x2 + (1 : Int32)) → P_X8_heatOn_L2 v_z_dots v_z_dead v_pulses C99 n (x2 + (1 : Int32)) (upd (upd v_p1 (Int32.toNatClampNeg x2) ((v_p1 (Int32.toNatClampNeg x2)) + ((10 : Int32) * (v_pulses (Int32.toNatClampNeg x2))))) (Int32.toNatClampNeg (x2 - (1 : Int32))) (((upd v_p1 (Int32.toNatClampNeg x2) ((v_p1 (Int32.toNatClampNeg x2)) + ((10 : Int32) * (v_pulses (Int32.toNatClampNeg x2))))) (Int32.toNatClampNeg (x2 - (1 : Int32)))) + ((2 : Int32) * (v_pulses (Int32.toNatClampNeg x2)))))) ∧ (¬ v_z_dots ≤ (x2 + (1 : Int32)) → (vp_in (x2 + (1 : Int32)) 30 ∧ P_X8_heatOn_L2 v_z_dots v_z_dead v_pulses C99 n (x2 + (1 : Int32)) (upd (upd (upd v_p1 (Int32.toNatClampNeg x2) ((v_p1 (Int32.toNatClampNeg x2)) + ((10 : Int32) * (v_pulses (Int32.toNatClampNeg x2))))) (Int32.toNatClampNeg (x2 - (1 : Int32))) (((upd v_p1 (Int32.toNatClampNeg x2) ((v_p1 (Int32.toNatClampNeg x2)) + ((10 : Int32) * (v_pulses (Int32.toNatClampNeg x2))))) (Int32.toNatClampNeg (x2 - (1 : Int32)))) + ((2 : Int32) * (v_pulses (Int32.toNatClampNeg x2))))) (Int32.toNatClampNeg (x2 + (1 : Int32))) (((upd (upd v_p1 (Int32.toNatClampNeg x2) ((v_p1 (Int32.toNatClampNeg x2)) + ((10 : Int32) * (v_pulses (Int32.toNatClampNeg x2))))) (Int32.toNatClampNeg (x2 - (1 : Int32))) (((upd v_p1 (Int32.toNatClampNeg x2) ((v_p1 (Int32.toNatClampNeg x2)) + ((10 : Int32) * (v_pulses (Int32.toNatClampNeg x2))))) (Int32.toNatClampNeg (x2 - (1 : Int32)))) + ((2 : Int32) * (v_pulses (Int32.toNatClampNeg x2))))) (Int32.toNatClampNeg (x2 + (1 : Int32)))) + ((2 : Int32) * (v_pulses (Int32.toNatClampNeg x2)))))))))))))))))))))
def P_X8_heatOn_L101 (v_z_dots : Int32) (C136 : (Nat → Int32) → Prop) : Nat → Int32 → (Nat → Int32) → Prop
  | 0, _, _ => False
  | n + 1, x2, v_p1 => ((v_z_dots ≤ x2 → C136 v_p1) ∧ (¬ v_z_dots ≤ x2 → (vp_in x2 30 ∧ (((v_p1 (Int32.toNatClampNeg x2)) ≤ (999 : Int32) → P_X8_heatOn_L101 v_z_dots C136 n (x2 + (1 : Int32)) (upd v_p1 (Int32.toNatClampNeg x2) (v_p1 (Int32.toNatClampNeg x2)))) ∧ (¬ (v_p1 (Int32.toNatClampNeg x2)) ≤ (999 : Int32) → P_X8_heatOn_L101 v_z_dots C136 n (x2 + (1 : Int32)) (upd v_p1 (Int32.toNatClampNeg x2) (999 : Int32)))))))
def P_X8_heatOn (v_z_dots : Int32) (v_z_dead : Int32) (v_pulses : Nat → Int32) (v_p1 : Nat → Int32) (K : (Nat → Int32) → Prop) : Prop := (∃ ne : Nat, P_X8_heatOn_L2 v_z_dots v_z_dead v_pulses (fun v_p1_13 => (∃ ne : Nat, P_X8_heatOn_L101 v_z_dots (fun v_p1_16 => K v_p1_16) ne (0 : Int32) v_p1_13)) ne (0 : Int32) v_p1)
set_option maxHeartbeats 4000000 in
set_option maxRecDepth 100000 in
theorem l_X8_heatOn_2 {Γ : g_C} (X : g_X Γ (g_Rm 1 21) cX8_heatOn RX8 3) (h0 : Nat) (h1 : Nat) (h2 : Nat) (o0 o1 o2 o3 o4 o5 o6 o7 o8 o9 o10 o11 o12 o13 o14 o15 o16 o17 o18 o19 o20 o21 o22 o23 o24 o25 o26 o27 o28 o29 o30 : Value) (v_z_dots : Int32) (v_z_dead : Int32) (v_pulses : Nat → Int32) {C99 : (Nat → Int32) → Prop} (hC99 : ∀ (v_p1 : Nat → Int32), C99 v_p1 → g_G Γ (g_Rm 1 21) 3 99 [(0, .ref h0), (1, .ref h2)] [] (W_X8_heatOn (g_env Γ) h0 h1 h2 o0 o1 o2 o3 o4 o5 o6 o7 o8 o9 o10 o11 o12 o13 o14 o15 o16 o17 o18 o19 o20 o21 o22 o23 o24 o25 o26 o27 o28 o29 o30 v_z_dots v_z_dead v_pulses v_p1)) : ∀ (n : Nat) (x2 : Int32) (v_p1 : Nat → Int32), P_X8_heatOn_L2 v_z_dots v_z_dead v_pulses C99 n x2 v_p1 → g_G Γ (g_Rm 1 21) 3 2 [(0, .ref h0), (1, .ref h2), (2, .int x2)] [] (W_X8_heatOn (g_env Γ) h0 h1 h2 o0 o1 o2 o3 o4 o5 o6 o7 o8 o9 o10 o11 o12 o13 o14 o15 o16 o17 o18 o19 o20 o21 o22 o23 o24 o25 o26 o27 o28 o29 o30 v_z_dots v_z_dead v_pulses v_p1) := by
  intro n
  induction n with
  | zero => intro x2 v_p1 h; exact False.elim h
  | succ n ih =>
    intro x2 v_p1 h
    unfold P_X8_heatOn_L2 at h
    refine g_iload_n 2 X dX8_heatOn_2 2 rfl rfl ?_
    refine g_aload_n 3 X dX8_heatOn_3 0 rfl rfl ?_
    refine g_get 4 X fa_X8_59 dX8_heatOn_4 0 rfl rfl ?_
    refine g_icmp_ge 7 X 99 dX8_heatOn_7 (by decide) (fun c => ?_) (fun c => ?_)
    · replace h := h.1 c
      refine g_sub [(0, .ref h0), (1, .ref h2)] [0, 1] rfl ?_
      exact hC99 v_p1 h
    · replace h := h.2 c
      refine g_aload_n 10 X dX8_heatOn_10 0 rfl rfl ?_
      refine g_get 11 X fa_X8_38 dX8_heatOn_11 0 rfl rfl ?_
      refine g_iload_n 14 X dX8_heatOn_14 2 rfl rfl ?_
      have f7 := h.1; replace h := h.2
      refine g_iald 15 X dX8_heatOn_15 1 rfl rfl f7 ?_
      refine g_bipush 16 X (-9 : Int32) dX8_heatOn_16 k_bp_m9 ?_
      refine g_icmp_eq 18 X 93 dX8_heatOn_18 (by decide) (fun c => ?_) (fun c => ?_)
      · replace h := h.1 c
        refine g_iinc 93 X (x2 + (1 : Int32)) [(2, .int (x2 + (1 : Int32))), (0, .ref h0), (1, .ref h2)] dX8_heatOn_93 2 rfl (k_ii_1 _) (Nat.le_of_ble_eq_true rfl) rfl ?_
        refine g_goto 96 X 2 dX8_heatOn_96 (by decide) ?_
        refine g_sub [(0, .ref h0), (1, .ref h2), (2, .int (x2 + (1 : Int32)))] [1, 2, 0] rfl ?_
        exact ih (x2 + (1 : Int32)) v_p1 h
      · replace h := h.2 c
        refine g_aload_n 21 X dX8_heatOn_21 0 rfl rfl ?_
        refine g_get 22 X fa_X8_130 dX8_heatOn_22 0 rfl rfl ?_
        refine g_iload_n 25 X dX8_heatOn_25 2 rfl rfl ?_
        refine g_cSI 26 X (st := []) mv_X8_123 dX8_heatOn_26 [.int v_z_dead, .int x2] (c_X8_has v_z_dead x2 h) [] (fun u : Unit => (W_X8_heatOn (g_env Γ) h0 h1 h2 o0 o1 o2 o3 o4 o5 o6 o7 o8 o9 o10 o11 o12 o13 o14 o15 o16 o17 o18 o19 o20 o21 o22 o23 o24 o25 o26 o27 o28 o29 o30 v_z_dots v_z_dead v_pulses v_p1)) rfl ⟨(Nat.le_of_ble_eq_true rfl), (Nat.le_of_ble_eq_true rfl)⟩ ⟨rfl, rfl⟩ (Nat.le_of_ble_eq_true rfl) rfl (by decide) (fun _ => rfl) (fun _ => rfl) (fun r8 u h => ?_)
        refine g_if_ne 29 X 93 dX8_heatOn_29 (by decide) (fun c => ?_) (fun c => ?_)
        · replace h := h.1 c
          refine g_iinc 93 X (x2 + (1 : Int32)) [(2, .int (x2 + (1 : Int32))), (0, .ref h0), (1, .ref h2)] dX8_heatOn_93 2 rfl (k_ii_1 _) (Nat.le_of_ble_eq_true rfl) rfl ?_
          refine g_goto 96 X 2 dX8_heatOn_96 (by decide) ?_
          refine g_sub [(0, .ref h0), (1, .ref h2), (2, .int (x2 + (1 : Int32)))] [1, 2, 0] rfl ?_
          exact ih (x2 + (1 : Int32)) v_p1 h
        · replace h := h.2 c
          refine g_aload_n 32 X dX8_heatOn_32 1 rfl rfl ?_
          refine g_iload_n 33 X dX8_heatOn_33 2 rfl rfl ?_
          refine g_dup2 34 X dX8_heatOn_34 rfl rfl ?_
          have f9 := h.1; replace h := h.2
          refine g_iald 35 X dX8_heatOn_35 2 rfl rfl f9 ?_
          refine g_bipush 36 X (10 : Int32) dX8_heatOn_36 k_bp_10 ?_
          refine g_aload_n 38 X dX8_heatOn_38 0 rfl rfl ?_
          refine g_get 39 X fa_X8_38 dX8_heatOn_39 0 rfl rfl ?_
          refine g_iload_n 42 X dX8_heatOn_42 2 rfl rfl ?_
          refine g_iald 43 X dX8_heatOn_43 1 rfl rfl f7 ?_
          refine g_imul 44 X dX8_heatOn_44 ?_
          refine g_iadd 45 X dX8_heatOn_45 ?_
          refine g_iast 46 X (W_X8_heatOn (g_env Γ) h0 h1 h2 o0 o1 o2 o3 o4 o5 o6 o7 o8 o9 o10 o11 o12 o13 o14 o15 o16 o17 o18 o19 o20 o21 o22 o23 o24 o25 o26 o27 o28 o29 o30 v_z_dots v_z_dead v_pulses (upd v_p1 (Int32.toNatClampNeg x2) ((v_p1 (Int32.toNatClampNeg x2)) + ((10 : Int32) * (v_pulses (Int32.toNatClampNeg x2)))))) dX8_heatOn_46 2 rfl rfl f9 rfl ?_
          refine g_iload_n 47 X dX8_heatOn_47 2 rfl rfl ?_
          refine g_if_le 48 X 67 dX8_heatOn_48 (by decide) (fun c => ?_) (fun c => ?_)
          · replace h := h.1 c
            refine g_iload_n 67 X dX8_heatOn_67 2 rfl rfl ?_
            refine g_iconst 68 X (1 : Int32) dX8_heatOn_68 k_ic_1 ?_
            refine g_iadd 69 X dX8_heatOn_69 ?_
            refine g_aload_n 70 X dX8_heatOn_70 0 rfl rfl ?_
            refine g_get 71 X fa_X8_59 dX8_heatOn_71 0 rfl rfl ?_
            refine g_icmp_ge 74 X 93 dX8_heatOn_74 (by decide) (fun c => ?_) (fun c => ?_)
            · replace h := h.1 c
              refine g_iinc 93 X (x2 + (1 : Int32)) [(2, .int (x2 + (1 : Int32))), (0, .ref h0), (1, .ref h2)] dX8_heatOn_93 2 rfl (k_ii_1 _) (Nat.le_of_ble_eq_true rfl) rfl ?_
              refine g_goto 96 X 2 dX8_heatOn_96 (by decide) ?_
              refine g_sub [(0, .ref h0), (1, .ref h2), (2, .int (x2 + (1 : Int32)))] [1, 2, 0] rfl ?_
              exact ih (x2 + (1 : Int32)) (upd v_p1 (Int32.toNatClampNeg x2) ((v_p1 (Int32.toNatClampNeg x2)) + ((10 : Int32) * (v_pulses (Int32.toNatClampNeg x2))))) h
            · replace h := h.2 c
              refine g_aload_n 77 X dX8_heatOn_77 1 rfl rfl ?_
              refine g_iload_n 78 X dX8_heatOn_78 2 rfl rfl ?_
              refine g_iconst 79 X (1 : Int32) dX8_heatOn_79 k_ic_1 ?_
              refine g_iadd 80 X dX8_heatOn_80 ?_
              refine g_dup2 81 X dX8_heatOn_81 rfl rfl ?_
              have f10 := h.1; replace h := h.2
              refine g_iald 82 X dX8_heatOn_82 2 rfl rfl f10 ?_
              refine g_iconst 83 X (2 : Int32) dX8_heatOn_83 k_ic_2 ?_
              refine g_aload_n 84 X dX8_heatOn_84 0 rfl rfl ?_
              refine g_get 85 X fa_X8_38 dX8_heatOn_85 0 rfl rfl ?_
              refine g_iload_n 88 X dX8_heatOn_88 2 rfl rfl ?_
              refine g_iald 89 X dX8_heatOn_89 1 rfl rfl f7 ?_
              refine g_imul 90 X dX8_heatOn_90 ?_
              refine g_iadd 91 X dX8_heatOn_91 ?_
              refine g_iast 92 X (W_X8_heatOn (g_env Γ) h0 h1 h2 o0 o1 o2 o3 o4 o5 o6 o7 o8 o9 o10 o11 o12 o13 o14 o15 o16 o17 o18 o19 o20 o21 o22 o23 o24 o25 o26 o27 o28 o29 o30 v_z_dots v_z_dead v_pulses (upd (upd v_p1 (Int32.toNatClampNeg x2) ((v_p1 (Int32.toNatClampNeg x2)) + ((10 : Int32) * (v_pulses (Int32.toNatClampNeg x2))))) (Int32.toNatClampNeg (x2 + (1 : Int32))) (((upd v_p1 (Int32.toNatClampNeg x2) ((v_p1 (Int32.toNatClampNeg x2)) + ((10 : Int32) * (v_pulses (Int32.toNatClampNeg x2))))) (Int32.toNatClampNeg (x2 + (1 : Int32)))) + ((2 : Int32) * (v_pulses (Int32.toNatClampNeg x2)))))) dX8_heatOn_92 2 rfl rfl f10 rfl ?_
              refine g_iinc 93 X (x2 + (1 : Int32)) [(2, .int (x2 + (1 : Int32))), (0, .ref h0), (1, .ref h2)] dX8_heatOn_93 2 rfl (k_ii_1 _) (Nat.le_of_ble_eq_true rfl) rfl ?_
              refine g_goto 96 X 2 dX8_heatOn_96 (by decide) ?_
              refine g_sub [(0, .ref h0), (1, .ref h2), (2, .int (x2 + (1 : Int32)))] [1, 2, 0] rfl ?_
              exact ih (x2 + (1 : Int32)) (upd (upd v_p1 (Int32.toNatClampNeg x2) ((v_p1 (Int32.toNatClampNeg x2)) + ((10 : Int32) * (v_pulses (Int32.toNatClampNeg x2))))) (Int32.toNatClampNeg (x2 + (1 : Int32))) (((upd v_p1 (Int32.toNatClampNeg x2) ((v_p1 (Int32.toNatClampNeg x2)) + ((10 : Int32) * (v_pulses (Int32.toNatClampNeg x2))))) (Int32.toNatClampNeg (x2 + (1 : Int32)))) + ((2 : Int32) * (v_pulses (Int32.toNatClampNeg x2))))) h
          · replace h := h.2 c
            refine g_aload_n 51 X dX8_heatOn_51 1 rfl rfl ?_
            refine g_iload_n 52 X dX8_heatOn_52 2 rfl rfl ?_
            refine g_iconst 53 X (1 : Int32) dX8_heatOn_53 k_ic_1 ?_
            refine g_isub 54 X dX8_heatOn_54 ?_
            refine g_dup2 55 X dX8_heatOn_55 rfl rfl ?_
            have f11 := h.1; replace h := h.2
            refine g_iald 56 X dX8_heatOn_56 2 rfl rfl f11 ?_
            refine g_iconst 57 X (2 : Int32) dX8_heatOn_57 k_ic_2 ?_
            refine g_aload_n 58 X dX8_heatOn_58 0 rfl rfl ?_
            refine g_get 59 X fa_X8_38 dX8_heatOn_59 0 rfl rfl ?_
            refine g_iload_n 62 X dX8_heatOn_62 2 rfl rfl ?_
            refine g_iald 63 X dX8_heatOn_63 1 rfl rfl f7 ?_
            refine g_imul 64 X dX8_heatOn_64 ?_
            refine g_iadd 65 X dX8_heatOn_65 ?_
            refine g_iast 66 X (W_X8_heatOn (g_env Γ) h0 h1 h2 o0 o1 o2 o3 o4 o5 o6 o7 o8 o9 o10 o11 o12 o13 o14 o15 o16 o17 o18 o19 o20 o21 o22 o23 o24 o25 o26 o27 o28 o29 o30 v_z_dots v_z_dead v_pulses (upd (upd v_p1 (Int32.toNatClampNeg x2) ((v_p1 (Int32.toNatClampNeg x2)) + ((10 : Int32) * (v_pulses (Int32.toNatClampNeg x2))))) (Int32.toNatClampNeg (x2 - (1 : Int32))) (((upd v_p1 (Int32.toNatClampNeg x2) ((v_p1 (Int32.toNatClampNeg x2)) + ((10 : Int32) * (v_pulses (Int32.toNatClampNeg x2))))) (Int32.toNatClampNeg (x2 - (1 : Int32)))) + ((2 : Int32) * (v_pulses (Int32.toNatClampNeg x2)))))) dX8_heatOn_66 2 rfl rfl f11 rfl ?_
            refine g_iload_n 67 X dX8_heatOn_67 2 rfl rfl ?_
            refine g_iconst 68 X (1 : Int32) dX8_heatOn_68 k_ic_1 ?_
            refine g_iadd 69 X dX8_heatOn_69 ?_
            refine g_aload_n 70 X dX8_heatOn_70 0 rfl rfl ?_
            refine g_get 71 X fa_X8_59 dX8_heatOn_71 0 rfl rfl ?_
            refine g_icmp_ge 74 X 93 dX8_heatOn_74 (by decide) (fun c => ?_) (fun c => ?_)
            · replace h := h.1 c
              refine g_iinc 93 X (x2 + (1 : Int32)) [(2, .int (x2 + (1 : Int32))), (0, .ref h0), (1, .ref h2)] dX8_heatOn_93 2 rfl (k_ii_1 _) (Nat.le_of_ble_eq_true rfl) rfl ?_
              refine g_goto 96 X 2 dX8_heatOn_96 (by decide) ?_
              refine g_sub [(0, .ref h0), (1, .ref h2), (2, .int (x2 + (1 : Int32)))] [1, 2, 0] rfl ?_
              exact ih (x2 + (1 : Int32)) (upd (upd v_p1 (Int32.toNatClampNeg x2) ((v_p1 (Int32.toNatClampNeg x2)) + ((10 : Int32) * (v_pulses (Int32.toNatClampNeg x2))))) (Int32.toNatClampNeg (x2 - (1 : Int32))) (((upd v_p1 (Int32.toNatClampNeg x2) ((v_p1 (Int32.toNatClampNeg x2)) + ((10 : Int32) * (v_pulses (Int32.toNatClampNeg x2))))) (Int32.toNatClampNeg (x2 - (1 : Int32)))) + ((2 : Int32) * (v_pulses (Int32.toNatClampNeg x2))))) h
            · replace h := h.2 c
              refine g_aload_n 77 X dX8_heatOn_77 1 rfl rfl ?_
              refine g_iload_n 78 X dX8_heatOn_78 2 rfl rfl ?_
              refine g_iconst 79 X (1 : Int32) dX8_heatOn_79 k_ic_1 ?_
              refine g_iadd 80 X dX8_heatOn_80 ?_
              refine g_dup2 81 X dX8_heatOn_81 rfl rfl ?_
              have f12 := h.1; replace h := h.2
              refine g_iald 82 X dX8_heatOn_82 2 rfl rfl f12 ?_
              refine g_iconst 83 X (2 : Int32) dX8_heatOn_83 k_ic_2 ?_
              refine g_aload_n 84 X dX8_heatOn_84 0 rfl rfl ?_
              refine g_get 85 X fa_X8_38 dX8_heatOn_85 0 rfl rfl ?_
              refine g_iload_n 88 X dX8_heatOn_88 2 rfl rfl ?_
              refine g_iald 89 X dX8_heatOn_89 1 rfl rfl f7 ?_
              refine g_imul 90 X dX8_heatOn_90 ?_
              refine g_iadd 91 X dX8_heatOn_91 ?_
              refine g_iast 92 X (W_X8_heatOn (g_env Γ) h0 h1 h2 o0 o1 o2 o3 o4 o5 o6 o7 o8 o9 o10 o11 o12 o13 o14 o15 o16 o17 o18 o19 o20 o21 o22 o23 o24 o25 o26 o27 o28 o29 o30 v_z_dots v_z_dead v_pulses (upd (upd (upd v_p1 (Int32.toNatClampNeg x2) ((v_p1 (Int32.toNatClampNeg x2)) + ((10 : Int32) * (v_pulses (Int32.toNatClampNeg x2))))) (Int32.toNatClampNeg (x2 - (1 : Int32))) (((upd v_p1 (Int32.toNatClampNeg x2) ((v_p1 (Int32.toNatClampNeg x2)) + ((10 : Int32) * (v_pulses (Int32.toNatClampNeg x2))))) (Int32.toNatClampNeg (x2 - (1 : Int32)))) + ((2 : Int32) * (v_pulses (Int32.toNatClampNeg x2))))) (Int32.toNatClampNeg (x2 + (1 : Int32))) (((upd (upd v_p1 (Int32.toNatClampNeg x2) ((v_p1 (Int32.toNatClampNeg x2)) + ((10 : Int32) * (v_pulses (Int32.toNatClampNeg x2))))) (Int32.toNatClampNeg (x2 - (1 : Int32))) (((upd v_p1 (Int32.toNatClampNeg x2) ((v_p1 (Int32.toNatClampNeg x2)) + ((10 : Int32) * (v_pulses (Int32.toNatClampNeg x2))))) (Int32.toNatClampNeg (x2 - (1 : Int32)))) + ((2 : Int32) * (v_pulses (Int32.toNatClampNeg x2))))) (Int32.toNatClampNeg (x2 + (1 : Int32)))) + ((2 : Int32) * (v_pulses (Int32.toNatClampNeg x2)))))) dX8_heatOn_92 2 rfl rfl f12 rfl ?_
              refine g_iinc 93 X (x2 + (1 : Int32)) [(2, .int (x2 + (1 : Int32))), (0, .ref h0), (1, .ref h2)] dX8_heatOn_93 2 rfl (k_ii_1 _) (Nat.le_of_ble_eq_true rfl) rfl ?_
              refine g_goto 96 X 2 dX8_heatOn_96 (by decide) ?_
              refine g_sub [(0, .ref h0), (1, .ref h2), (2, .int (x2 + (1 : Int32)))] [1, 2, 0] rfl ?_
              exact ih (x2 + (1 : Int32)) (upd (upd (upd v_p1 (Int32.toNatClampNeg x2) ((v_p1 (Int32.toNatClampNeg x2)) + ((10 : Int32) * (v_pulses (Int32.toNatClampNeg x2))))) (Int32.toNatClampNeg (x2 - (1 : Int32))) (((upd v_p1 (Int32.toNatClampNeg x2) ((v_p1 (Int32.toNatClampNeg x2)) + ((10 : Int32) * (v_pulses (Int32.toNatClampNeg x2))))) (Int32.toNatClampNeg (x2 - (1 : Int32)))) + ((2 : Int32) * (v_pulses (Int32.toNatClampNeg x2))))) (Int32.toNatClampNeg (x2 + (1 : Int32))) (((upd (upd v_p1 (Int32.toNatClampNeg x2) ((v_p1 (Int32.toNatClampNeg x2)) + ((10 : Int32) * (v_pulses (Int32.toNatClampNeg x2))))) (Int32.toNatClampNeg (x2 - (1 : Int32))) (((upd v_p1 (Int32.toNatClampNeg x2) ((v_p1 (Int32.toNatClampNeg x2)) + ((10 : Int32) * (v_pulses (Int32.toNatClampNeg x2))))) (Int32.toNatClampNeg (x2 - (1 : Int32)))) + ((2 : Int32) * (v_pulses (Int32.toNatClampNeg x2))))) (Int32.toNatClampNeg (x2 + (1 : Int32)))) + ((2 : Int32) * (v_pulses (Int32.toNatClampNeg x2))))) h
set_option maxHeartbeats 4000000 in
set_option maxRecDepth 100000 in
theorem l_X8_heatOn_101 {Γ : g_C} (X : g_X Γ (g_Rm 1 21) cX8_heatOn RX8 3) (h0 : Nat) (h1 : Nat) (h2 : Nat) (o0 o1 o2 o3 o4 o5 o6 o7 o8 o9 o10 o11 o12 o13 o14 o15 o16 o17 o18 o19 o20 o21 o22 o23 o24 o25 o26 o27 o28 o29 o30 : Value) (v_z_dots : Int32) (v_z_dead : Int32) (v_pulses : Nat → Int32) {C136 : (Nat → Int32) → Prop} (hC136 : ∀ (v_p1 : Nat → Int32), C136 v_p1 → g_G Γ (g_Rm 1 21) 3 136 [] [] (W_X8_heatOn (g_env Γ) h0 h1 h2 o0 o1 o2 o3 o4 o5 o6 o7 o8 o9 o10 o11 o12 o13 o14 o15 o16 o17 o18 o19 o20 o21 o22 o23 o24 o25 o26 o27 o28 o29 o30 v_z_dots v_z_dead v_pulses v_p1)) : ∀ (n : Nat) (x2 : Int32) (v_p1 : Nat → Int32), P_X8_heatOn_L101 v_z_dots C136 n x2 v_p1 → g_G Γ (g_Rm 1 21) 3 101 [(0, .ref h0), (1, .ref h2), (2, .int x2)] [] (W_X8_heatOn (g_env Γ) h0 h1 h2 o0 o1 o2 o3 o4 o5 o6 o7 o8 o9 o10 o11 o12 o13 o14 o15 o16 o17 o18 o19 o20 o21 o22 o23 o24 o25 o26 o27 o28 o29 o30 v_z_dots v_z_dead v_pulses v_p1) := by
  intro n
  induction n with
  | zero => intro x2 v_p1 h; exact False.elim h
  | succ n ih =>
    intro x2 v_p1 h
    unfold P_X8_heatOn_L101 at h
    refine g_iload_n 101 X dX8_heatOn_101 2 rfl rfl ?_
    refine g_aload_n 102 X dX8_heatOn_102 0 rfl rfl ?_
    refine g_get 103 X fa_X8_59 dX8_heatOn_103 0 rfl rfl ?_
    refine g_icmp_ge 106 X 136 dX8_heatOn_106 (by decide) (fun c => ?_) (fun c => ?_)
    · replace h := h.1 c
      refine g_sub [] [] rfl ?_
      exact hC136 v_p1 h
    · replace h := h.2 c
      refine g_aload_n 109 X dX8_heatOn_109 1 rfl rfl ?_
      refine g_iload_n 110 X dX8_heatOn_110 2 rfl rfl ?_
      refine g_aload_n 111 X dX8_heatOn_111 1 rfl rfl ?_
      refine g_iload_n 112 X dX8_heatOn_112 2 rfl rfl ?_
      have f15 := h.1; replace h := h.2
      refine g_iald 113 X dX8_heatOn_113 2 rfl rfl f15 ?_
      refine g_sipush 114 X (999 : Int32) dX8_heatOn_114 k_sp_999 ?_
      refine g_icmp_le 117 X 126 dX8_heatOn_117 (by decide) (fun c => ?_) (fun c => ?_)
      · replace h := h.1 c
        refine g_aload_n 126 X dX8_heatOn_126 1 rfl rfl ?_
        refine g_iload_n 127 X dX8_heatOn_127 2 rfl rfl ?_
        refine g_iald 128 X dX8_heatOn_128 2 rfl rfl f15 ?_
        refine g_iast 129 X (W_X8_heatOn (g_env Γ) h0 h1 h2 o0 o1 o2 o3 o4 o5 o6 o7 o8 o9 o10 o11 o12 o13 o14 o15 o16 o17 o18 o19 o20 o21 o22 o23 o24 o25 o26 o27 o28 o29 o30 v_z_dots v_z_dead v_pulses (upd v_p1 (Int32.toNatClampNeg x2) (v_p1 (Int32.toNatClampNeg x2)))) dX8_heatOn_129 2 rfl rfl f15 rfl ?_
        refine g_iinc 130 X (x2 + (1 : Int32)) [(2, .int (x2 + (1 : Int32))), (0, .ref h0), (1, .ref h2)] dX8_heatOn_130 2 rfl (k_ii_1 _) (Nat.le_of_ble_eq_true rfl) rfl ?_
        refine g_goto 133 X 101 dX8_heatOn_133 (by decide) ?_
        refine g_sub [(0, .ref h0), (1, .ref h2), (2, .int (x2 + (1 : Int32)))] [1, 2, 0] rfl ?_
        exact ih (x2 + (1 : Int32)) (upd v_p1 (Int32.toNatClampNeg x2) (v_p1 (Int32.toNatClampNeg x2))) h
      · replace h := h.2 c
        refine g_sipush 120 X (999 : Int32) dX8_heatOn_120 k_sp_999 ?_
        refine g_goto 123 X 129 dX8_heatOn_123 (by decide) ?_
        refine g_iast 129 X (W_X8_heatOn (g_env Γ) h0 h1 h2 o0 o1 o2 o3 o4 o5 o6 o7 o8 o9 o10 o11 o12 o13 o14 o15 o16 o17 o18 o19 o20 o21 o22 o23 o24 o25 o26 o27 o28 o29 o30 v_z_dots v_z_dead v_pulses (upd v_p1 (Int32.toNatClampNeg x2) (999 : Int32))) dX8_heatOn_129 2 rfl rfl f15 rfl ?_
        refine g_iinc 130 X (x2 + (1 : Int32)) [(2, .int (x2 + (1 : Int32))), (0, .ref h0), (1, .ref h2)] dX8_heatOn_130 2 rfl (k_ii_1 _) (Nat.le_of_ble_eq_true rfl) rfl ?_
        refine g_goto 133 X 101 dX8_heatOn_133 (by decide) ?_
        refine g_sub [(0, .ref h0), (1, .ref h2), (2, .int (x2 + (1 : Int32)))] [1, 2, 0] rfl ?_
        exact ih (x2 + (1 : Int32)) (upd v_p1 (Int32.toNatClampNeg x2) (999 : Int32)) h
set_option maxHeartbeats 4000000 in
set_option maxRecDepth 100000 in
theorem c_X8_heatOn {l : Launch} {E : g_E} (h0 : Nat) (h1 : Nat) (h2 : Nat) (o0 o1 o2 o3 o4 o5 o6 o7 o8 o9 o10 o11 o12 o13 o14 o15 o16 o17 o18 o19 o20 o21 o22 o23 o24 o25 o26 o27 o28 o29 o30 : Value) (v_z_dots : Int32) (v_z_dead : Int32) (v_pulses : Nat → Int32) (v_p1 : Nat → Int32) {K : (Nat → Int32) → Prop} (h : P_X8_heatOn v_z_dots v_z_dead v_pulses v_p1 K) : g_CV l E yX8_heatOn cX8_heatOn 3 (g_Rm 1 21) [.ref h0, .ref h2] (W_X8_heatOn E h0 h1 h2 o0 o1 o2 o3 o4 o5 o6 o7 o8 o9 o10 o11 o12 o13 o14 o15 o16 o17 o18 o19 o20 o21 o22 o23 o24 o25 o26 o27 o28 o29 o30 v_z_dots v_z_dead v_pulses v_p1) (fun (u : (Nat → Int32)) => K u) (fun (u : (Nat → Int32)) => (W_X8_heatOn E h0 h1 h2 o0 o1 o2 o3 o4 o5 o6 o7 o8 o9 o10 o11 o12 o13 o14 o15 o16 o17 o18 o19 o20 o21 o22 o23 o24 o25 o26 o27 o28 o29 o30 v_z_dots v_z_dead v_pulses u)) := by
  refine g_entV RX8 (by decide) rfl (Nat.le_of_ble_eq_true rfl) ?_
  intro Γ X hE hl ret
  subst hE
  subst hl
  unfold P_X8_heatOn at h
  show g_G Γ (g_Rm 1 21) 3 0 [(0, .ref h0), (1, .ref h2)] [] (W_X8_heatOn (g_env Γ) h0 h1 h2 o0 o1 o2 o3 o4 o5 o6 o7 o8 o9 o10 o11 o12 o13 o14 o15 o16 o17 o18 o19 o20 o21 o22 o23 o24 o25 o26 o27 o28 o29 o30 v_z_dots v_z_dead v_pulses v_p1)
  refine g_iconst 0 X (0 : Int32) dX8_heatOn_0 k_ic_0 ?_
  refine g_istore_n 1 X [(2, .int (0 : Int32)), (0, .ref h0), (1, .ref h2)] dX8_heatOn_1 rfl (Nat.le_of_ble_eq_true rfl) rfl ?_
  obtain ⟨n18, h⟩ := h
  refine g_sub [(0, .ref h0), (1, .ref h2), (2, .int (0 : Int32))] [1, 2, 0] rfl ?_
  refine l_X8_heatOn_2 X h0 h1 h2 o0 o1 o2 o3 o4 o5 o6 o7 o8 o9 o10 o11 o12 o13 o14 o15 o16 o17 o18 o19 o20 o21 o22 o23 o24 o25 o26 o27 o28 o29 o30 v_z_dots v_z_dead v_pulses (fun v_p1_13 h => ?_) n18 (0 : Int32) v_p1 h
  · refine g_iconst 99 X (0 : Int32) dX8_heatOn_99 k_ic_0 ?_
    refine g_istore_n 100 X [(2, .int (0 : Int32)), (0, .ref h0), (1, .ref h2)] dX8_heatOn_100 rfl (Nat.le_of_ble_eq_true rfl) rfl ?_
    obtain ⟨n17, h⟩ := h
    refine g_sub [(0, .ref h0), (1, .ref h2), (2, .int (0 : Int32))] [1, 2, 0] rfl ?_
    refine l_X8_heatOn_101 X h0 h1 h2 o0 o1 o2 o3 o4 o5 o6 o7 o8 o9 o10 o11 o12 o13 o14 o15 o16 o17 o18 o19 o20 o21 o22 o23 o24 o25 o26 o27 o28 o29 o30 v_z_dots v_z_dead v_pulses (fun v_p1_16 h => ?_) n17 (0 : Int32) v_p1_13 h
    · exact ret 136 _ (v_p1_16) dX8_heatOn_136 h

def W_X8_markOn (E : g_E) (h0 : Nat) (h1 : Nat) (o0 o1 o2 o3 o4 o5 o6 o7 o8 o9 o10 o11 o12 o13 o14 o15 o16 o17 o18 o19 o20 o21 o22 o23 o24 o25 o26 o27 o28 o29 : Value) (v_z_dots : Int32) (v_z_low : Int32) (v_z_high : Int32) (v_z_ghost : Int32) (v_p1 : Nat → Int32) : va_W := [(h0, .inr (8, [o0, o1, .int v_z_dots, o2, o3, .int v_z_low, .int v_z_high, .int v_z_ghost, o4, o5, o6, o7, o8, o9, o10, o11, o12, o13, o14, o15, o16, o17, o18, o19, o20, o21, o22, o23, o24, o25, o26, o27, o28, o29])), (h1, .inl (E.2.1, 30, .inl v_p1))]
def P_X8_markOn_L2 (v_z_dots : Int32) (v_z_low : Int32) (v_z_high : Int32) (v_z_ghost : Int32) (x2 : Int32) (C99 : (Nat → Int32) → Prop) : Nat → Int32 → (Nat → Int32) → Prop
  | 0, _, _ => False
  | n + 1, x3, v_p1 => ((v_z_dots ≤ x3 → C99 v_p1) ∧ (¬ v_z_dots ≤ x3 → (P_X8_has x2 x3 (fun r1 => ((¬ r1 = (0 : Int32) → (vp_in x3 30 ∧ ((v_z_low ≤ (v_p1 (Int32.toNatClampNeg x3)) → (((v_p1 (Int32.toNatClampNeg x3)) ≤ v_z_high → P_X8_markOn_L2 v_z_dots v_z_low v_z_high v_z_ghost x2 C99 n (x3 + (1 : Int32)) (upd v_p1 (Int32.toNatClampNeg (25 : Int32)) ((v_p1 (Int32.toNatClampNeg (25 : Int32))) + (1 : Int32)))) ∧ (¬ (v_p1 (Int32.toNatClampNeg x3)) ≤ v_z_high → P_X8_markOn_L2 v_z_dots v_z_low v_z_high v_z_ghost x2 C99 n (x3 + (1 : Int32)) (upd v_p1 (Int32.toNatClampNeg (27 : Int32)) ((v_p1 (Int32.toNatClampNeg (27 : Int32))) + (1 : Int32)))))) ∧ (¬ v_z_low ≤ (v_p1 (Int32.toNatClampNeg x3)) → P_X8_markOn_L2 v_z_dots v_z_low v_z_high v_z_ghost x2 C99 n (x3 + (1 : Int32)) (upd v_p1 (Int32.toNatClampNeg (26 : Int32)) ((v_p1 (Int32.toNatClampNeg (26 : Int32))) + (1 : Int32))))))) ∧ (r1 = (0 : Int32) → (vp_in x3 30 ∧ (((v_p1 (Int32.toNatClampNeg x3)) ≤ v_z_ghost → P_X8_markOn_L2 v_z_dots v_z_low v_z_high v_z_ghost x2 C99 n (x3 + (1 : Int32)) (upd v_p1 (Int32.toNatClampNeg (28 : Int32)) ((v_p1 (Int32.toNatClampNeg (28 : Int32))) + (0 : Int32)))) ∧ (¬ (v_p1 (Int32.toNatClampNeg x3)) ≤ v_z_ghost → P_X8_markOn_L2 v_z_dots v_z_low v_z_high v_z_ghost x2 C99 n (x3 + (1 : Int32)) (upd v_p1 (Int32.toNatClampNeg (28 : Int32)) ((v_p1 (Int32.toNatClampNeg (28 : Int32))) + (1 : Int32))))))))))))
def P_X8_markOn (b2 : Int32) (v_z_dots : Int32) (v_z_low : Int32) (v_z_high : Int32) (v_z_ghost : Int32) (v_p1 : Nat → Int32) (K : (Nat → Int32) → Prop) : Prop := (∃ ne : Nat, P_X8_markOn_L2 v_z_dots v_z_low v_z_high v_z_ghost b2 (fun v_p1_7 => K v_p1_7) ne (0 : Int32) v_p1)
set_option maxHeartbeats 4000000 in
set_option maxRecDepth 100000 in
theorem l_X8_markOn_2 {Γ : g_C} (X : g_X Γ (g_Rm 1 21) cX8_markOn RX8 4) (h0 : Nat) (h1 : Nat) (o0 o1 o2 o3 o4 o5 o6 o7 o8 o9 o10 o11 o12 o13 o14 o15 o16 o17 o18 o19 o20 o21 o22 o23 o24 o25 o26 o27 o28 o29 : Value) (v_z_dots : Int32) (v_z_low : Int32) (v_z_high : Int32) (v_z_ghost : Int32) (x2 : Int32) {C99 : (Nat → Int32) → Prop} (hC99 : ∀ (v_p1 : Nat → Int32), C99 v_p1 → g_G Γ (g_Rm 1 21) 4 99 [] [] (W_X8_markOn (g_env Γ) h0 h1 o0 o1 o2 o3 o4 o5 o6 o7 o8 o9 o10 o11 o12 o13 o14 o15 o16 o17 o18 o19 o20 o21 o22 o23 o24 o25 o26 o27 o28 o29 v_z_dots v_z_low v_z_high v_z_ghost v_p1)) : ∀ (n : Nat) (x3 : Int32) (v_p1 : Nat → Int32), P_X8_markOn_L2 v_z_dots v_z_low v_z_high v_z_ghost x2 C99 n x3 v_p1 → g_G Γ (g_Rm 1 21) 4 2 [(0, .ref h0), (1, .ref h1), (2, .int x2), (3, .int x3)] [] (W_X8_markOn (g_env Γ) h0 h1 o0 o1 o2 o3 o4 o5 o6 o7 o8 o9 o10 o11 o12 o13 o14 o15 o16 o17 o18 o19 o20 o21 o22 o23 o24 o25 o26 o27 o28 o29 v_z_dots v_z_low v_z_high v_z_ghost v_p1) := by
  intro n
  induction n with
  | zero => intro x3 v_p1 h; exact False.elim h
  | succ n ih =>
    intro x3 v_p1 h
    unfold P_X8_markOn_L2 at h
    refine g_iload_n 2 X dX8_markOn_2 3 rfl rfl ?_
    refine g_aload_n 3 X dX8_markOn_3 0 rfl rfl ?_
    refine g_get 4 X fa_X8_59 dX8_markOn_4 0 rfl rfl ?_
    refine g_icmp_ge 7 X 99 dX8_markOn_7 (by decide) (fun c => ?_) (fun c => ?_)
    · replace h := h.1 c
      refine g_sub [] [] rfl ?_
      exact hC99 v_p1 h
    · replace h := h.2 c
      refine g_iload_n 10 X dX8_markOn_10 2 rfl rfl ?_
      refine g_iload_n 11 X dX8_markOn_11 3 rfl rfl ?_
      refine g_cSI 12 X (st := []) mv_X8_123 dX8_markOn_12 [.int x2, .int x3] (c_X8_has x2 x3 h) [] (fun u : Unit => (W_X8_markOn (g_env Γ) h0 h1 o0 o1 o2 o3 o4 o5 o6 o7 o8 o9 o10 o11 o12 o13 o14 o15 o16 o17 o18 o19 o20 o21 o22 o23 o24 o25 o26 o27 o28 o29 v_z_dots v_z_low v_z_high v_z_ghost v_p1)) rfl ⟨(Nat.le_of_ble_eq_true rfl), (Nat.le_of_ble_eq_true rfl)⟩ ⟨rfl, rfl⟩ (Nat.le_of_ble_eq_true rfl) rfl (by decide) (fun _ => rfl) (fun _ => rfl) (fun r4 u h => ?_)
      refine g_if_ne 15 X 43 dX8_markOn_15 (by decide) (fun c => ?_) (fun c => ?_)
      · replace h := h.1 c
        refine g_aload_n 43 X dX8_markOn_43 1 rfl rfl ?_
        refine g_iload_n 44 X dX8_markOn_44 3 rfl rfl ?_
        have f5 := h.1; replace h := h.2
        refine g_iald 45 X dX8_markOn_45 1 rfl rfl f5 ?_
        refine g_aload_n 46 X dX8_markOn_46 0 rfl rfl ?_
        refine g_get 47 X fa_X8_111 dX8_markOn_47 0 rfl rfl ?_
        refine g_icmp_ge 50 X 64 dX8_markOn_50 (by decide) (fun c => ?_) (fun c => ?_)
        · replace h := h.1 c
          refine g_aload_n 64 X dX8_markOn_64 1 rfl rfl ?_
          refine g_iload_n 65 X dX8_markOn_65 3 rfl rfl ?_
          refine g_iald 66 X dX8_markOn_66 1 rfl rfl f5 ?_
          refine g_aload_n 67 X dX8_markOn_67 0 rfl rfl ?_
          refine g_get 68 X fa_X8_114 dX8_markOn_68 0 rfl rfl ?_
          refine g_icmp_le 71 X 85 dX8_markOn_71 (by decide) (fun c => ?_) (fun c => ?_)
          · replace h := h.1 c
            refine g_aload_n 85 X dX8_markOn_85 1 rfl rfl ?_
            refine g_bipush 86 X (25 : Int32) dX8_markOn_86 k_bp_25 ?_
            refine g_dup2 88 X dX8_markOn_88 rfl rfl ?_
            refine g_iald 89 X dX8_markOn_89 1 rfl rfl (vp_lit (by decide)) ?_
            refine g_iconst 90 X (1 : Int32) dX8_markOn_90 k_ic_1 ?_
            refine g_iadd 91 X dX8_markOn_91 ?_
            refine g_iast 92 X (W_X8_markOn (g_env Γ) h0 h1 o0 o1 o2 o3 o4 o5 o6 o7 o8 o9 o10 o11 o12 o13 o14 o15 o16 o17 o18 o19 o20 o21 o22 o23 o24 o25 o26 o27 o28 o29 v_z_dots v_z_low v_z_high v_z_ghost (upd v_p1 (Int32.toNatClampNeg (25 : Int32)) ((v_p1 (Int32.toNatClampNeg (25 : Int32))) + (1 : Int32)))) dX8_markOn_92 1 rfl rfl (vp_lit (by decide)) rfl ?_
            refine g_iinc 93 X (x3 + (1 : Int32)) [(3, .int (x3 + (1 : Int32))), (0, .ref h0), (1, .ref h1), (2, .int x2)] dX8_markOn_93 3 rfl (k_ii_1 _) (Nat.le_of_ble_eq_true rfl) rfl ?_
            refine g_goto 96 X 2 dX8_markOn_96 (by decide) ?_
            refine g_sub [(0, .ref h0), (1, .ref h1), (2, .int x2), (3, .int (x3 + (1 : Int32)))] [1, 2, 3, 0] rfl ?_
            exact ih (x3 + (1 : Int32)) (upd v_p1 (Int32.toNatClampNeg (25 : Int32)) ((v_p1 (Int32.toNatClampNeg (25 : Int32))) + (1 : Int32))) h
          · replace h := h.2 c
            refine g_aload_n 74 X dX8_markOn_74 1 rfl rfl ?_
            refine g_bipush 75 X (27 : Int32) dX8_markOn_75 k_bp_27 ?_
            refine g_dup2 77 X dX8_markOn_77 rfl rfl ?_
            refine g_iald 78 X dX8_markOn_78 1 rfl rfl (vp_lit (by decide)) ?_
            refine g_iconst 79 X (1 : Int32) dX8_markOn_79 k_ic_1 ?_
            refine g_iadd 80 X dX8_markOn_80 ?_
            refine g_iast 81 X (W_X8_markOn (g_env Γ) h0 h1 o0 o1 o2 o3 o4 o5 o6 o7 o8 o9 o10 o11 o12 o13 o14 o15 o16 o17 o18 o19 o20 o21 o22 o23 o24 o25 o26 o27 o28 o29 v_z_dots v_z_low v_z_high v_z_ghost (upd v_p1 (Int32.toNatClampNeg (27 : Int32)) ((v_p1 (Int32.toNatClampNeg (27 : Int32))) + (1 : Int32)))) dX8_markOn_81 1 rfl rfl (vp_lit (by decide)) rfl ?_
            refine g_goto 82 X 93 dX8_markOn_82 (by decide) ?_
            refine g_iinc 93 X (x3 + (1 : Int32)) [(3, .int (x3 + (1 : Int32))), (0, .ref h0), (1, .ref h1), (2, .int x2)] dX8_markOn_93 3 rfl (k_ii_1 _) (Nat.le_of_ble_eq_true rfl) rfl ?_
            refine g_goto 96 X 2 dX8_markOn_96 (by decide) ?_
            refine g_sub [(0, .ref h0), (1, .ref h1), (2, .int x2), (3, .int (x3 + (1 : Int32)))] [1, 2, 3, 0] rfl ?_
            exact ih (x3 + (1 : Int32)) (upd v_p1 (Int32.toNatClampNeg (27 : Int32)) ((v_p1 (Int32.toNatClampNeg (27 : Int32))) + (1 : Int32))) h
        · replace h := h.2 c
          refine g_aload_n 53 X dX8_markOn_53 1 rfl rfl ?_
          refine g_bipush 54 X (26 : Int32) dX8_markOn_54 k_bp_26 ?_
          refine g_dup2 56 X dX8_markOn_56 rfl rfl ?_
          refine g_iald 57 X dX8_markOn_57 1 rfl rfl (vp_lit (by decide)) ?_
          refine g_iconst 58 X (1 : Int32) dX8_markOn_58 k_ic_1 ?_
          refine g_iadd 59 X dX8_markOn_59 ?_
          refine g_iast 60 X (W_X8_markOn (g_env Γ) h0 h1 o0 o1 o2 o3 o4 o5 o6 o7 o8 o9 o10 o11 o12 o13 o14 o15 o16 o17 o18 o19 o20 o21 o22 o23 o24 o25 o26 o27 o28 o29 v_z_dots v_z_low v_z_high v_z_ghost (upd v_p1 (Int32.toNatClampNeg (26 : Int32)) ((v_p1 (Int32.toNatClampNeg (26 : Int32))) + (1 : Int32)))) dX8_markOn_60 1 rfl rfl (vp_lit (by decide)) rfl ?_
          refine g_goto 61 X 93 dX8_markOn_61 (by decide) ?_
          refine g_iinc 93 X (x3 + (1 : Int32)) [(3, .int (x3 + (1 : Int32))), (0, .ref h0), (1, .ref h1), (2, .int x2)] dX8_markOn_93 3 rfl (k_ii_1 _) (Nat.le_of_ble_eq_true rfl) rfl ?_
          refine g_goto 96 X 2 dX8_markOn_96 (by decide) ?_
          refine g_sub [(0, .ref h0), (1, .ref h1), (2, .int x2), (3, .int (x3 + (1 : Int32)))] [1, 2, 3, 0] rfl ?_
          exact ih (x3 + (1 : Int32)) (upd v_p1 (Int32.toNatClampNeg (26 : Int32)) ((v_p1 (Int32.toNatClampNeg (26 : Int32))) + (1 : Int32))) h
      · replace h := h.2 c
        refine g_aload_n 18 X dX8_markOn_18 1 rfl rfl ?_
        refine g_bipush 19 X (28 : Int32) dX8_markOn_19 k_bp_28 ?_
        refine g_dup2 21 X dX8_markOn_21 rfl rfl ?_
        refine g_iald 22 X dX8_markOn_22 1 rfl rfl (vp_lit (by decide)) ?_
        refine g_aload_n 23 X dX8_markOn_23 1 rfl rfl ?_
        refine g_iload_n 24 X dX8_markOn_24 3 rfl rfl ?_
        have f6 := h.1; replace h := h.2
        refine g_iald 25 X dX8_markOn_25 1 rfl rfl f6 ?_
        refine g_aload_n 26 X dX8_markOn_26 0 rfl rfl ?_
        refine g_get 27 X fa_X8_117 dX8_markOn_27 0 rfl rfl ?_
        refine g_icmp_le 30 X 37 dX8_markOn_30 (by decide) (fun c => ?_) (fun c => ?_)
        · replace h := h.1 c
          refine g_iconst 37 X (0 : Int32) dX8_markOn_37 k_ic_0 ?_
          refine g_iadd 38 X dX8_markOn_38 ?_
          refine g_iast 39 X (W_X8_markOn (g_env Γ) h0 h1 o0 o1 o2 o3 o4 o5 o6 o7 o8 o9 o10 o11 o12 o13 o14 o15 o16 o17 o18 o19 o20 o21 o22 o23 o24 o25 o26 o27 o28 o29 v_z_dots v_z_low v_z_high v_z_ghost (upd v_p1 (Int32.toNatClampNeg (28 : Int32)) ((v_p1 (Int32.toNatClampNeg (28 : Int32))) + (0 : Int32)))) dX8_markOn_39 1 rfl rfl (vp_lit (by decide)) rfl ?_
          refine g_goto 40 X 93 dX8_markOn_40 (by decide) ?_
          refine g_iinc 93 X (x3 + (1 : Int32)) [(3, .int (x3 + (1 : Int32))), (0, .ref h0), (1, .ref h1), (2, .int x2)] dX8_markOn_93 3 rfl (k_ii_1 _) (Nat.le_of_ble_eq_true rfl) rfl ?_
          refine g_goto 96 X 2 dX8_markOn_96 (by decide) ?_
          refine g_sub [(0, .ref h0), (1, .ref h1), (2, .int x2), (3, .int (x3 + (1 : Int32)))] [1, 2, 3, 0] rfl ?_
          exact ih (x3 + (1 : Int32)) (upd v_p1 (Int32.toNatClampNeg (28 : Int32)) ((v_p1 (Int32.toNatClampNeg (28 : Int32))) + (0 : Int32))) h
        · replace h := h.2 c
          refine g_iconst 33 X (1 : Int32) dX8_markOn_33 k_ic_1 ?_
          refine g_goto 34 X 38 dX8_markOn_34 (by decide) ?_
          refine g_iadd 38 X dX8_markOn_38 ?_
          refine g_iast 39 X (W_X8_markOn (g_env Γ) h0 h1 o0 o1 o2 o3 o4 o5 o6 o7 o8 o9 o10 o11 o12 o13 o14 o15 o16 o17 o18 o19 o20 o21 o22 o23 o24 o25 o26 o27 o28 o29 v_z_dots v_z_low v_z_high v_z_ghost (upd v_p1 (Int32.toNatClampNeg (28 : Int32)) ((v_p1 (Int32.toNatClampNeg (28 : Int32))) + (1 : Int32)))) dX8_markOn_39 1 rfl rfl (vp_lit (by decide)) rfl ?_
          refine g_goto 40 X 93 dX8_markOn_40 (by decide) ?_
          refine g_iinc 93 X (x3 + (1 : Int32)) [(3, .int (x3 + (1 : Int32))), (0, .ref h0), (1, .ref h1), (2, .int x2)] dX8_markOn_93 3 rfl (k_ii_1 _) (Nat.le_of_ble_eq_true rfl) rfl ?_
          refine g_goto 96 X 2 dX8_markOn_96 (by decide) ?_
          refine g_sub [(0, .ref h0), (1, .ref h1), (2, .int x2), (3, .int (x3 + (1 : Int32)))] [1, 2, 3, 0] rfl ?_
          exact ih (x3 + (1 : Int32)) (upd v_p1 (Int32.toNatClampNeg (28 : Int32)) ((v_p1 (Int32.toNatClampNeg (28 : Int32))) + (1 : Int32))) h
set_option maxHeartbeats 4000000 in
set_option maxRecDepth 100000 in
theorem c_X8_markOn {l : Launch} {E : g_E} (h0 : Nat) (h1 : Nat) (o0 o1 o2 o3 o4 o5 o6 o7 o8 o9 o10 o11 o12 o13 o14 o15 o16 o17 o18 o19 o20 o21 o22 o23 o24 o25 o26 o27 o28 o29 : Value) (v_z_dots : Int32) (v_z_low : Int32) (v_z_high : Int32) (v_z_ghost : Int32) (v_p1 : Nat → Int32) (b2 : Int32) {K : (Nat → Int32) → Prop} (h : P_X8_markOn b2 v_z_dots v_z_low v_z_high v_z_ghost v_p1 K) : g_CV l E yX8_markOn cX8_markOn 4 (g_Rm 1 21) [.ref h0, .ref h1, .int b2] (W_X8_markOn E h0 h1 o0 o1 o2 o3 o4 o5 o6 o7 o8 o9 o10 o11 o12 o13 o14 o15 o16 o17 o18 o19 o20 o21 o22 o23 o24 o25 o26 o27 o28 o29 v_z_dots v_z_low v_z_high v_z_ghost v_p1) (fun (u : (Nat → Int32)) => K u) (fun (u : (Nat → Int32)) => (W_X8_markOn E h0 h1 o0 o1 o2 o3 o4 o5 o6 o7 o8 o9 o10 o11 o12 o13 o14 o15 o16 o17 o18 o19 o20 o21 o22 o23 o24 o25 o26 o27 o28 o29 v_z_dots v_z_low v_z_high v_z_ghost u)) := by
  refine g_entV RX8 (by decide) rfl (Nat.le_of_ble_eq_true rfl) ?_
  intro Γ X hE hl ret
  subst hE
  subst hl
  unfold P_X8_markOn at h
  show g_G Γ (g_Rm 1 21) 4 0 [(0, .ref h0), (1, .ref h1), (2, .int b2)] [] (W_X8_markOn (g_env Γ) h0 h1 o0 o1 o2 o3 o4 o5 o6 o7 o8 o9 o10 o11 o12 o13 o14 o15 o16 o17 o18 o19 o20 o21 o22 o23 o24 o25 o26 o27 o28 o29 v_z_dots v_z_low v_z_high v_z_ghost v_p1)
  refine g_iconst 0 X (0 : Int32) dX8_markOn_0 k_ic_0 ?_
  refine g_istore_n 1 X [(3, .int (0 : Int32)), (0, .ref h0), (1, .ref h1), (2, .int b2)] dX8_markOn_1 rfl (Nat.le_of_ble_eq_true rfl) rfl ?_
  obtain ⟨n8, h⟩ := h
  refine g_sub [(0, .ref h0), (1, .ref h1), (2, .int b2), (3, .int (0 : Int32))] [1, 2, 3, 0] rfl ?_
  refine l_X8_markOn_2 X h0 h1 o0 o1 o2 o3 o4 o5 o6 o7 o8 o9 o10 o11 o12 o13 o14 o15 o16 o17 o18 o19 o20 o21 o22 o23 o24 o25 o26 o27 o28 o29 v_z_dots v_z_low v_z_high v_z_ghost b2 (fun v_p1_7 h => ?_) n8 (0 : Int32) v_p1 h
  · exact ret 99 _ (v_p1_7) dX8_markOn_99 h

def W_X8_printOn (E : g_E) (h0 : Nat) (h1 : Nat) (h2 : Nat) (o0 o1 o2 o3 o4 o5 o6 o7 o8 o9 o10 o11 o12 o13 o14 o15 o16 o17 o18 o19 o20 o21 o22 o23 o24 o25 o26 : Value) (v_z_dots : Int32) (v_z_cool : Int32) (v_z_low : Int32) (v_z_high : Int32) (v_z_ghost : Int32) (v_z_dead : Int32) (v_pulses : Nat → Int32) (v_p1 : Nat → Int32) : va_W := [(h0, .inr (8, [o0, o1, .int v_z_dots, .int v_z_cool, o2, .int v_z_low, .int v_z_high, .int v_z_ghost, o3, o4, o5, o6, o7, o8, o9, o10, o11, o12, o13, o14, .int v_z_dead, .ref h1, o15, o16, o17, o18, o19, o20, o21, o22, o23, o24, o25, o26])), (h1, .inl (E.2.1, 8, .inl v_pulses)), (h2, .inl (E.2.1, 30, .inl v_p1))]
def P_X8_printOn (b2 : Int32) (v_z_dots : Int32) (v_z_cool : Int32) (v_z_low : Int32) (v_z_high : Int32) (v_z_ghost : Int32) (v_z_dead : Int32) (v_pulses : Nat → Int32) (v_p1 : Nat → Int32) (K : (Nat → Int32) → (Nat → Int32) → Prop) : Prop := (P_X8_coolOn v_z_dots v_z_cool v_p1 (fun v_p1_1 => (P_X8_layPulses b2 (v_p1_1 (Int32.toNatClampNeg (22 : Int32))) (v_p1_1 (Int32.toNatClampNeg (23 : Int32))) v_z_dots v_pulses v_p1_1 (fun v_pulses_2 => (P_X8_heatOn v_z_dots v_z_dead v_pulses_2 v_p1_1 (fun v_p1_3 => (P_X8_markOn b2 v_z_dots v_z_low v_z_high v_z_ghost v_p1_3 (fun v_p1_4 => K v_pulses_2 (upd (upd (upd v_p1_4 (Int32.toNatClampNeg (23 : Int32)) (v_p1_4 (Int32.toNatClampNeg (22 : Int32)))) (Int32.toNatClampNeg (22 : Int32)) b2) (Int32.toNatClampNeg (29 : Int32)) (((upd (upd v_p1_4 (Int32.toNatClampNeg (23 : Int32)) (v_p1_4 (Int32.toNatClampNeg (22 : Int32)))) (Int32.toNatClampNeg (22 : Int32)) b2) (Int32.toNatClampNeg (29 : Int32))) + (1 : Int32)))))))))))
set_option maxHeartbeats 4000000 in
set_option maxRecDepth 100000 in
theorem c_X8_printOn {l : Launch} {E : g_E} (h0 : Nat) (h1 : Nat) (h2 : Nat) (o0 o1 o2 o3 o4 o5 o6 o7 o8 o9 o10 o11 o12 o13 o14 o15 o16 o17 o18 o19 o20 o21 o22 o23 o24 o25 o26 : Value) (v_z_dots : Int32) (v_z_cool : Int32) (v_z_low : Int32) (v_z_high : Int32) (v_z_ghost : Int32) (v_z_dead : Int32) (v_pulses : Nat → Int32) (v_p1 : Nat → Int32) (b2 : Int32) {K : (Nat → Int32) → (Nat → Int32) → Prop} (h : P_X8_printOn b2 v_z_dots v_z_cool v_z_low v_z_high v_z_ghost v_z_dead v_pulses v_p1 K) : g_CV l E yX8_printOn cX8_printOn 3 (g_Rm 2 47) [.ref h0, .ref h2, .int b2] (W_X8_printOn E h0 h1 h2 o0 o1 o2 o3 o4 o5 o6 o7 o8 o9 o10 o11 o12 o13 o14 o15 o16 o17 o18 o19 o20 o21 o22 o23 o24 o25 o26 v_z_dots v_z_cool v_z_low v_z_high v_z_ghost v_z_dead v_pulses v_p1) (fun (u : (Nat → Int32) × (Nat → Int32)) => K u.1 u.2) (fun (u : (Nat → Int32) × (Nat → Int32)) => (W_X8_printOn E h0 h1 h2 o0 o1 o2 o3 o4 o5 o6 o7 o8 o9 o10 o11 o12 o13 o14 o15 o16 o17 o18 o19 o20 o21 o22 o23 o24 o25 o26 v_z_dots v_z_cool v_z_low v_z_high v_z_ghost v_z_dead u.1 u.2)) := by
  refine g_entV RX8 (by decide) rfl (Nat.le_of_ble_eq_true rfl) ?_
  intro Γ X hE hl ret
  subst hE
  subst hl
  unfold P_X8_printOn at h
  show g_G Γ (g_Rm 2 47) 3 0 [(0, .ref h0), (1, .ref h2), (2, .int b2)] [] (W_X8_printOn (g_env Γ) h0 h1 h2 o0 o1 o2 o3 o4 o5 o6 o7 o8 o9 o10 o11 o12 o13 o14 o15 o16 o17 o18 o19 o20 o21 o22 o23 o24 o25 o26 v_z_dots v_z_cool v_z_low v_z_high v_z_ghost v_z_dead v_pulses v_p1)
  refine g_aload_n 0 X dX8_printOn_0 0 rfl rfl ?_
  refine g_aload_n 1 X dX8_printOn_1 1 rfl rfl ?_
  refine g_cVV 2 X (st := []) mv_X8_133 dX8_printOn_2 h0 8 [.ref h2] (c_X8_coolOn h0 h2 o0 o1 o2 (.int v_z_low) (.int v_z_high) (.int v_z_ghost) o3 o4 o5 o6 o7 o8 o9 o10 o11 o12 o13 o14 (.int v_z_dead) (.ref h1) o15 o16 o17 o18 o19 o20 o21 o22 o23 o24 o25 o26 v_z_dots v_z_cool v_p1 h) [0, 2] (fun u : (Nat → Int32) => (W_X8_printOn (g_env Γ) h0 h1 h2 o0 o1 o2 o3 o4 o5 o6 o7 o8 o9 o10 o11 o12 o13 o14 o15 o16 o17 o18 o19 o20 o21 o22 o23 o24 o25 o26 v_z_dots v_z_cool v_z_low v_z_high v_z_ghost v_z_dead v_pulses u)) rfl ⟨(Nat.le_of_ble_eq_true rfl), (Nat.le_of_ble_eq_true rfl)⟩ ⟨rfl, rfl⟩ (Nat.le_of_ble_eq_true rfl) rfl rfl rfl (by decide) (fun _ => rfl) (fun _ => rfl) (fun u h => ?_)
  obtain ⟨v_p1_1, rfl⟩ : ∃ z, z = u := ⟨_, rfl⟩
  refine g_aload_n 5 X dX8_printOn_5 0 rfl rfl ?_
  refine g_aload_n 6 X dX8_printOn_6 1 rfl rfl ?_
  refine g_iload_n 7 X dX8_printOn_7 2 rfl rfl ?_
  refine g_aload_n 8 X dX8_printOn_8 1 rfl rfl ?_
  refine g_bipush 9 X (22 : Int32) dX8_printOn_9 k_bp_22 ?_
  refine g_iald 11 X dX8_printOn_11 2 rfl rfl (vp_lit (by decide)) ?_
  refine g_aload_n 12 X dX8_printOn_12 1 rfl rfl ?_
  refine g_bipush 13 X (23 : Int32) dX8_printOn_13 k_bp_23 ?_
  refine g_iald 15 X dX8_printOn_15 2 rfl rfl (vp_lit (by decide)) ?_
  refine g_cVV 16 X (st := []) mv_X8_137 dX8_printOn_16 h0 8 [.ref h2, .int b2, .int (v_p1_1 (Int32.toNatClampNeg (22 : Int32))), .int (v_p1_1 (Int32.toNatClampNeg (23 : Int32)))] (c_X8_layPulses h0 h1 h2 o0 o1 (.int v_z_cool) o2 (.int v_z_low) (.int v_z_high) (.int v_z_ghost) o3 o4 o5 o6 o7 o8 o9 o10 o11 o12 o13 o14 (.int v_z_dead) o15 o16 o17 o18 o19 o20 o21 o22 o23 o24 o25 o26 v_z_dots v_pulses v_p1_1 b2 (v_p1_1 (Int32.toNatClampNeg (22 : Int32))) (v_p1_1 (Int32.toNatClampNeg (23 : Int32))) h) [0, 1, 2] (fun u : (Nat → Int32) => (W_X8_printOn (g_env Γ) h0 h1 h2 o0 o1 o2 o3 o4 o5 o6 o7 o8 o9 o10 o11 o12 o13 o14 o15 o16 o17 o18 o19 o20 o21 o22 o23 o24 o25 o26 v_z_dots v_z_cool v_z_low v_z_high v_z_ghost v_z_dead u v_p1_1)) rfl ⟨(Nat.le_of_ble_eq_true rfl), (Nat.le_of_ble_eq_true rfl)⟩ ⟨rfl, rfl⟩ (Nat.le_of_ble_eq_true rfl) rfl rfl rfl (by decide) (fun _ => rfl) (fun _ => rfl) (fun u h => ?_)
  obtain ⟨v_pulses_2, rfl⟩ : ∃ z, z = u := ⟨_, rfl⟩
  refine g_aload_n 19 X dX8_printOn_19 0 rfl rfl ?_
  refine g_aload_n 20 X dX8_printOn_20 1 rfl rfl ?_
  refine g_cVV 21 X (st := []) mv_X8_141 dX8_printOn_21 h0 8 [.ref h2] (c_X8_heatOn h0 h1 h2 o0 o1 (.int v_z_cool) o2 (.int v_z_low) (.int v_z_high) (.int v_z_ghost) o3 o4 o5 o6 o7 o8 o9 o10 o11 o12 o13 o14 o15 o16 o17 o18 o19 o20 o21 o22 o23 o24 o25 o26 v_z_dots v_z_dead v_pulses_2 v_p1_1 h) [0, 1, 2] (fun u : (Nat → Int32) => (W_X8_printOn (g_env Γ) h0 h1 h2 o0 o1 o2 o3 o4 o5 o6 o7 o8 o9 o10 o11 o12 o13 o14 o15 o16 o17 o18 o19 o20 o21 o22 o23 o24 o25 o26 v_z_dots v_z_cool v_z_low v_z_high v_z_ghost v_z_dead v_pulses_2 u)) rfl ⟨(Nat.le_of_ble_eq_true rfl), (Nat.le_of_ble_eq_true rfl)⟩ ⟨rfl, rfl⟩ (Nat.le_of_ble_eq_true rfl) rfl rfl rfl (by decide) (fun _ => rfl) (fun _ => rfl) (fun u h => ?_)
  obtain ⟨v_p1_3, rfl⟩ : ∃ z, z = u := ⟨_, rfl⟩
  refine g_aload_n 24 X dX8_printOn_24 0 rfl rfl ?_
  refine g_aload_n 25 X dX8_printOn_25 1 rfl rfl ?_
  refine g_iload_n 26 X dX8_printOn_26 2 rfl rfl ?_
  refine g_cVV 27 X (st := []) mv_X8_144 dX8_printOn_27 h0 8 [.ref h2, .int b2] (c_X8_markOn h0 h2 o0 o1 (.int v_z_cool) o2 o3 o4 o5 o6 o7 o8 o9 o10 o11 o12 o13 o14 (.int v_z_dead) (.ref h1) o15 o16 o17 o18 o19 o20 o21 o22 o23 o24 o25 o26 v_z_dots v_z_low v_z_high v_z_ghost v_p1_3 b2 h) [0, 2] (fun u : (Nat → Int32) => (W_X8_printOn (g_env Γ) h0 h1 h2 o0 o1 o2 o3 o4 o5 o6 o7 o8 o9 o10 o11 o12 o13 o14 o15 o16 o17 o18 o19 o20 o21 o22 o23 o24 o25 o26 v_z_dots v_z_cool v_z_low v_z_high v_z_ghost v_z_dead v_pulses_2 u)) rfl ⟨(Nat.le_of_ble_eq_true rfl), (Nat.le_of_ble_eq_true rfl)⟩ ⟨rfl, rfl⟩ (Nat.le_of_ble_eq_true rfl) rfl rfl rfl (by decide) (fun _ => rfl) (fun _ => rfl) (fun u h => ?_)
  obtain ⟨v_p1_4, rfl⟩ : ∃ z, z = u := ⟨_, rfl⟩
  refine g_aload_n 30 X dX8_printOn_30 1 rfl rfl ?_
  refine g_bipush 31 X (23 : Int32) dX8_printOn_31 k_bp_23 ?_
  refine g_aload_n 33 X dX8_printOn_33 1 rfl rfl ?_
  refine g_bipush 34 X (22 : Int32) dX8_printOn_34 k_bp_22 ?_
  refine g_iald 36 X dX8_printOn_36 2 rfl rfl (vp_lit (by decide)) ?_
  refine g_iast 37 X (W_X8_printOn (g_env Γ) h0 h1 h2 o0 o1 o2 o3 o4 o5 o6 o7 o8 o9 o10 o11 o12 o13 o14 o15 o16 o17 o18 o19 o20 o21 o22 o23 o24 o25 o26 v_z_dots v_z_cool v_z_low v_z_high v_z_ghost v_z_dead v_pulses_2 (upd v_p1_4 (Int32.toNatClampNeg (23 : Int32)) (v_p1_4 (Int32.toNatClampNeg (22 : Int32))))) dX8_printOn_37 2 rfl rfl (vp_lit (by decide)) rfl ?_
  refine g_aload_n 38 X dX8_printOn_38 1 rfl rfl ?_
  refine g_bipush 39 X (22 : Int32) dX8_printOn_39 k_bp_22 ?_
  refine g_iload_n 41 X dX8_printOn_41 2 rfl rfl ?_
  refine g_iast 42 X (W_X8_printOn (g_env Γ) h0 h1 h2 o0 o1 o2 o3 o4 o5 o6 o7 o8 o9 o10 o11 o12 o13 o14 o15 o16 o17 o18 o19 o20 o21 o22 o23 o24 o25 o26 v_z_dots v_z_cool v_z_low v_z_high v_z_ghost v_z_dead v_pulses_2 (upd (upd v_p1_4 (Int32.toNatClampNeg (23 : Int32)) (v_p1_4 (Int32.toNatClampNeg (22 : Int32)))) (Int32.toNatClampNeg (22 : Int32)) b2)) dX8_printOn_42 2 rfl rfl (vp_lit (by decide)) rfl ?_
  refine g_aload_n 43 X dX8_printOn_43 1 rfl rfl ?_
  refine g_bipush 44 X (29 : Int32) dX8_printOn_44 k_bp_29 ?_
  refine g_dup2 46 X dX8_printOn_46 rfl rfl ?_
  refine g_iald 47 X dX8_printOn_47 2 rfl rfl (vp_lit (by decide)) ?_
  refine g_iconst 48 X (1 : Int32) dX8_printOn_48 k_ic_1 ?_
  refine g_iadd 49 X dX8_printOn_49 ?_
  refine g_iast 50 X (W_X8_printOn (g_env Γ) h0 h1 h2 o0 o1 o2 o3 o4 o5 o6 o7 o8 o9 o10 o11 o12 o13 o14 o15 o16 o17 o18 o19 o20 o21 o22 o23 o24 o25 o26 v_z_dots v_z_cool v_z_low v_z_high v_z_ghost v_z_dead v_pulses_2 (upd (upd (upd v_p1_4 (Int32.toNatClampNeg (23 : Int32)) (v_p1_4 (Int32.toNatClampNeg (22 : Int32)))) (Int32.toNatClampNeg (22 : Int32)) b2) (Int32.toNatClampNeg (29 : Int32)) (((upd (upd v_p1_4 (Int32.toNatClampNeg (23 : Int32)) (v_p1_4 (Int32.toNatClampNeg (22 : Int32)))) (Int32.toNatClampNeg (22 : Int32)) b2) (Int32.toNatClampNeg (29 : Int32))) + (1 : Int32)))) dX8_printOn_50 2 rfl rfl (vp_lit (by decide)) rfl ?_
  exact ret 51 _ (v_pulses_2, (upd (upd (upd v_p1_4 (Int32.toNatClampNeg (23 : Int32)) (v_p1_4 (Int32.toNatClampNeg (22 : Int32)))) (Int32.toNatClampNeg (22 : Int32)) b2) (Int32.toNatClampNeg (29 : Int32)) (((upd (upd v_p1_4 (Int32.toNatClampNeg (23 : Int32)) (v_p1_4 (Int32.toNatClampNeg (22 : Int32)))) (Int32.toNatClampNeg (22 : Int32)) b2) (Int32.toNatClampNeg (29 : Int32))) + (1 : Int32)))) dX8_printOn_51 h

def W_X8_takeLine (E : g_E) (h0 : Nat) (v_z : Nat → Int32) : va_W := [(h0, .inl (E.2.1, 30, .inl v_z))]
def P_X8_takeLine_L15 (x1 : Int32) (C43 : (Nat → Int32) → Prop) : Nat → Int32 → (Nat → Int32) → Prop
  | 0, _, _ => False
  | n + 1, x2, v_z => (((v_z (Int32.toNatClampNeg (21 : Int32))) ≤ x2 → C43 v_z) ∧ (¬ (v_z (Int32.toNatClampNeg (21 : Int32))) ≤ x2 → (vp_in (((13 : Int32) + x2) + (1 : Int32)) 30 ∧ (vp_in ((13 : Int32) + x2) 30 ∧ P_X8_takeLine_L15 x1 C43 n (x2 + (1 : Int32)) (upd v_z (Int32.toNatClampNeg ((13 : Int32) + x2)) (v_z (Int32.toNatClampNeg (((13 : Int32) + x2) + (1 : Int32)))))))))
def P_X8_takeLine (v_z : Nat → Int32) (K : Int32 → (Nat → Int32) → Prop) : Prop := (∃ ne : Nat, P_X8_takeLine_L15 (v_z (Int32.toNatClampNeg (13 : Int32))) (fun v_z_5 => (vp_in ((13 : Int32) + (v_z_5 (Int32.toNatClampNeg (21 : Int32)))) 30 ∧ K (v_z (Int32.toNatClampNeg (13 : Int32))) (upd v_z_5 (Int32.toNatClampNeg ((13 : Int32) + (v_z_5 (Int32.toNatClampNeg (21 : Int32))))) (0 : Int32)))) ne (0 : Int32) (upd v_z (Int32.toNatClampNeg (21 : Int32)) ((v_z (Int32.toNatClampNeg (21 : Int32))) - (1 : Int32))))
set_option maxHeartbeats 4000000 in
set_option maxRecDepth 100000 in
theorem l_X8_takeLine_15 {Γ : g_C} (X : g_X Γ (g_Rm 0 0) cX8_takeLine RX8 3) (h0 : Nat) (x1 : Int32) {C43 : (Nat → Int32) → Prop} (hC43 : ∀ (v_z : Nat → Int32), C43 v_z → g_G Γ (g_Rm 0 0) 3 43 [(0, .ref h0), (1, .int x1)] [] (W_X8_takeLine (g_env Γ) h0 v_z)) : ∀ (n : Nat) (x2 : Int32) (v_z : Nat → Int32), P_X8_takeLine_L15 x1 C43 n x2 v_z → g_G Γ (g_Rm 0 0) 3 15 [(0, .ref h0), (1, .int x1), (2, .int x2)] [] (W_X8_takeLine (g_env Γ) h0 v_z) := by
  intro n
  induction n with
  | zero => intro x2 v_z h; exact False.elim h
  | succ n ih =>
    intro x2 v_z h
    unfold P_X8_takeLine_L15 at h
    refine g_iload_n 15 X dX8_takeLine_15 2 rfl rfl ?_
    refine g_aload_n 16 X dX8_takeLine_16 0 rfl rfl ?_
    refine g_bipush 17 X (21 : Int32) dX8_takeLine_17 k_bp_21 ?_
    refine g_iald 19 X dX8_takeLine_19 0 rfl rfl (vp_lit (by decide)) ?_
    refine g_icmp_ge 20 X 43 dX8_takeLine_20 (by decide) (fun c => ?_) (fun c => ?_)
    · replace h := h.1 c
      refine g_sub [(0, .ref h0), (1, .int x1)] [0, 1] rfl ?_
      exact hC43 v_z h
    · replace h := h.2 c
      refine g_aload_n 23 X dX8_takeLine_23 0 rfl rfl ?_
      refine g_bipush 24 X (13 : Int32) dX8_takeLine_24 k_bp_13 ?_
      refine g_iload_n 26 X dX8_takeLine_26 2 rfl rfl ?_
      refine g_iadd 27 X dX8_takeLine_27 ?_
      refine g_aload_n 28 X dX8_takeLine_28 0 rfl rfl ?_
      refine g_bipush 29 X (13 : Int32) dX8_takeLine_29 k_bp_13 ?_
      refine g_iload_n 31 X dX8_takeLine_31 2 rfl rfl ?_
      refine g_iadd 32 X dX8_takeLine_32 ?_
      refine g_iconst 33 X (1 : Int32) dX8_takeLine_33 k_ic_1 ?_
      refine g_iadd 34 X dX8_takeLine_34 ?_
      have f3 := h.1; replace h := h.2
      refine g_iald 35 X dX8_takeLine_35 0 rfl rfl f3 ?_
      have f4 := h.1; replace h := h.2
      refine g_iast 36 X (W_X8_takeLine (g_env Γ) h0 (upd v_z (Int32.toNatClampNeg ((13 : Int32) + x2)) (v_z (Int32.toNatClampNeg (((13 : Int32) + x2) + (1 : Int32)))))) dX8_takeLine_36 0 rfl rfl f4 rfl ?_
      refine g_iinc 37 X (x2 + (1 : Int32)) [(2, .int (x2 + (1 : Int32))), (0, .ref h0), (1, .int x1)] dX8_takeLine_37 2 rfl (k_ii_1 _) (Nat.le_of_ble_eq_true rfl) rfl ?_
      refine g_goto 40 X 15 dX8_takeLine_40 (by decide) ?_
      refine g_sub [(0, .ref h0), (1, .int x1), (2, .int (x2 + (1 : Int32)))] [1, 2, 0] rfl ?_
      exact ih (x2 + (1 : Int32)) (upd v_z (Int32.toNatClampNeg ((13 : Int32) + x2)) (v_z (Int32.toNatClampNeg (((13 : Int32) + x2) + (1 : Int32))))) h
set_option maxHeartbeats 4000000 in
set_option maxRecDepth 100000 in
theorem c_X8_takeLine {l : Launch} {E : g_E} (h0 : Nat) (v_z : Nat → Int32) {K : Int32 → (Nat → Int32) → Prop} (h : P_X8_takeLine v_z K) : g_CI l E yX8_takeLine cX8_takeLine 3 .int (g_Rm 0 0) [.ref h0] (W_X8_takeLine E h0 v_z) (fun r (u : (Nat → Int32)) => K r u) (fun (u : (Nat → Int32)) => (W_X8_takeLine E h0 u)) := by
  refine g_entI RX8 (by decide) rfl (Nat.le_of_ble_eq_true rfl) ?_
  intro Γ X hE hl ret
  subst hE
  subst hl
  unfold P_X8_takeLine at h
  show g_G Γ (g_Rm 0 0) 3 0 [(0, .ref h0)] [] (W_X8_takeLine (g_env Γ) h0 v_z)
  refine g_aload_n 0 X dX8_takeLine_0 0 rfl rfl ?_
  refine g_bipush 1 X (13 : Int32) dX8_takeLine_1 k_bp_13 ?_
  refine g_iald 3 X dX8_takeLine_3 0 rfl rfl (vp_lit (by decide)) ?_
  refine g_istore_n 4 X [(1, .int (v_z (Int32.toNatClampNeg (13 : Int32)))), (0, .ref h0)] dX8_takeLine_4 rfl (Nat.le_of_ble_eq_true rfl) rfl ?_
  refine g_aload_n 5 X dX8_takeLine_5 1 rfl rfl ?_
  refine g_bipush 6 X (21 : Int32) dX8_takeLine_6 k_bp_21 ?_
  refine g_dup2 8 X dX8_takeLine_8 rfl rfl ?_
  refine g_iald 9 X dX8_takeLine_9 0 rfl rfl (vp_lit (by decide)) ?_
  refine g_iconst 10 X (1 : Int32) dX8_takeLine_10 k_ic_1 ?_
  refine g_isub 11 X dX8_takeLine_11 ?_
  refine g_iast 12 X (W_X8_takeLine (g_env Γ) h0 (upd v_z (Int32.toNatClampNeg (21 : Int32)) ((v_z (Int32.toNatClampNeg (21 : Int32))) - (1 : Int32)))) dX8_takeLine_12 0 rfl rfl (vp_lit (by decide)) rfl ?_
  refine g_iconst 13 X (0 : Int32) dX8_takeLine_13 k_ic_0 ?_
  refine g_istore_n 14 X [(2, .int (0 : Int32)), (1, .int (v_z (Int32.toNatClampNeg (13 : Int32)))), (0, .ref h0)] dX8_takeLine_14 rfl (Nat.le_of_ble_eq_true rfl) rfl ?_
  obtain ⟨n7, h⟩ := h
  refine g_sub [(0, .ref h0), (1, .int (v_z (Int32.toNatClampNeg (13 : Int32)))), (2, .int (0 : Int32))] [2, 1, 0] rfl ?_
  refine l_X8_takeLine_15 X h0 (v_z (Int32.toNatClampNeg (13 : Int32))) (fun v_z_5 h => ?_) n7 (0 : Int32) (upd v_z (Int32.toNatClampNeg (21 : Int32)) ((v_z (Int32.toNatClampNeg (21 : Int32))) - (1 : Int32))) h
  · refine g_aload_n 43 X dX8_takeLine_43 0 rfl rfl ?_
    refine g_bipush 44 X (13 : Int32) dX8_takeLine_44 k_bp_13 ?_
    refine g_aload_n 46 X dX8_takeLine_46 0 rfl rfl ?_
    refine g_bipush 47 X (21 : Int32) dX8_takeLine_47 k_bp_21 ?_
    refine g_iald 49 X dX8_takeLine_49 0 rfl rfl (vp_lit (by decide)) ?_
    refine g_iadd 50 X dX8_takeLine_50 ?_
    refine g_iconst 51 X (0 : Int32) dX8_takeLine_51 k_ic_0 ?_
    have f6 := h.1; replace h := h.2
    refine g_iast 52 X (W_X8_takeLine (g_env Γ) h0 (upd v_z_5 (Int32.toNatClampNeg ((13 : Int32) + (v_z_5 (Int32.toNatClampNeg (21 : Int32))))) (0 : Int32))) dX8_takeLine_52 0 rfl rfl f6 rfl ?_
    refine g_iload_n 53 X dX8_takeLine_53 1 rfl rfl ?_
    exact ret 54 _ _ ((upd v_z_5 (Int32.toNatClampNeg ((13 : Int32) + (v_z_5 (Int32.toNatClampNeg (21 : Int32))))) (0 : Int32))) dX8_takeLine_54 (vp_nar_int _) h

def W_X8_printLines (E : g_E) (h0 : Nat) (h1 : Nat) (h2 : Nat) (o0 o1 o2 o3 o4 o5 o6 o7 o8 o9 o10 o11 o12 o13 o14 o15 o16 o17 o18 o19 o20 o21 o22 o23 o24 o25 o26 : Value) (v_z_dots : Int32) (v_z_cool : Int32) (v_z_low : Int32) (v_z_high : Int32) (v_z_ghost : Int32) (v_z_dead : Int32) (v_pulses : Nat → Int32) (v_p1 : Nat → Int32) : va_W := [(h0, .inr (8, [o0, o1, .int v_z_dots, .int v_z_cool, o2, .int v_z_low, .int v_z_high, .int v_z_ghost, o3, o4, o5, o6, o7, o8, o9, o10, o11, o12, o13, o14, .int v_z_dead, .ref h1, o15, o16, o17, o18, o19, o20, o21, o22, o23, o24, o25, o26])), (h1, .inl (E.2.1, 8, .inl v_pulses)), (h2, .inl (E.2.1, 30, .inl v_p1))]
def P_X8_printLines_L2 (v_z_dots : Int32) (v_z_cool : Int32) (v_z_low : Int32) (v_z_high : Int32) (v_z_ghost : Int32) (v_z_dead : Int32) (x2 : Int32) (C64 : Int32 → (Nat → Int32) → (Nat → Int32) → Prop) : Nat → Int32 → (Nat → Int32) → (Nat → Int32) → Prop
  | 0, _, _, _ => False
  | n + 1, x3, v_pulses, v_p1 => ((x2 ≤ x3 → C64 x3 v_pulses v_p1) ∧ (¬ x2 ≤ x3 → (((v_p1 (Int32.toNatClampNeg (21 : Int32))) ≤ (0 : Int32) → C64 x3 v_pulses v_p1) ∧ (¬ (v_p1 (Int32.toNatClampNeg (21 : Int32))) ≤ (0 : Int32) → (((0 : Int32) < (v_p1 (Int32.toNatClampNeg (24 : Int32))) → (P_X8_takeLine v_p1 (fun r1 v_p1_2 => (P_X8_printOn r1 v_z_dots v_z_cool v_z_low v_z_high v_z_ghost v_z_dead v_pulses v_p1_2 (fun v_pulses_3 v_p1_4 => ((r1 = (0 : Int32) → P_X8_printLines_L2 v_z_dots v_z_cool v_z_low v_z_high v_z_ghost v_z_dead x2 C64 n (x3 + (1 : Int32)) v_pulses_3 (upd v_p1_4 (Int32.toNatClampNeg (24 : Int32)) ((v_p1_4 (Int32.toNatClampNeg (24 : Int32))) - (0 : Int32)))) ∧ (¬ r1 = (0 : Int32) → P_X8_printLines_L2 v_z_dots v_z_cool v_z_low v_z_high v_z_ghost v_z_dead x2 C64 n (x3 + (1 : Int32)) v_pulses_3 (upd v_p1_4 (Int32.toNatClampNeg (24 : Int32)) ((v_p1_4 (Int32.toNatClampNeg (24 : Int32))) - (1 : Int32)))))))))) ∧ (¬ (0 : Int32) < (v_p1 (Int32.toNatClampNeg (24 : Int32))) → ((¬ (v_p1 (Int32.toNatClampNeg (13 : Int32))) = (0 : Int32) → C64 x3 v_pulses v_p1) ∧ ((v_p1 (Int32.toNatClampNeg (13 : Int32))) = (0 : Int32) → (P_X8_takeLine v_p1 (fun r5 v_p1_6 => (P_X8_printOn r5 v_z_dots v_z_cool v_z_low v_z_high v_z_ghost v_z_dead v_pulses v_p1_6 (fun v_pulses_7 v_p1_8 => ((r5 = (0 : Int32) → P_X8_printLines_L2 v_z_dots v_z_cool v_z_low v_z_high v_z_ghost v_z_dead x2 C64 n (x3 + (1 : Int32)) v_pulses_7 (upd v_p1_8 (Int32.toNatClampNeg (24 : Int32)) ((v_p1_8 (Int32.toNatClampNeg (24 : Int32))) - (0 : Int32)))) ∧ (¬ r5 = (0 : Int32) → P_X8_printLines_L2 v_z_dots v_z_cool v_z_low v_z_high v_z_ghost v_z_dead x2 C64 n (x3 + (1 : Int32)) v_pulses_7 (upd v_p1_8 (Int32.toNatClampNeg (24 : Int32)) ((v_p1_8 (Int32.toNatClampNeg (24 : Int32))) - (1 : Int32)))))))))))))))))
def P_X8_printLines (b2 : Int32) (v_z_dots : Int32) (v_z_cool : Int32) (v_z_low : Int32) (v_z_high : Int32) (v_z_ghost : Int32) (v_z_dead : Int32) (v_pulses : Nat → Int32) (v_p1 : Nat → Int32) (K : Int32 → (Nat → Int32) → (Nat → Int32) → Prop) : Prop := (∃ ne : Nat, P_X8_printLines_L2 v_z_dots v_z_cool v_z_low v_z_high v_z_ghost v_z_dead b2 (fun x17 v_pulses_18 v_p1_19 => K x17 v_pulses_18 v_p1_19) ne (0 : Int32) v_pulses v_p1)
set_option maxHeartbeats 4000000 in
set_option maxRecDepth 100000 in
theorem l_X8_printLines_2 {Γ : g_C} (X : g_X Γ (g_Rm 3 69) cX8_printLines RX8 5) (h0 : Nat) (h1 : Nat) (h2 : Nat) (o0 o1 o2 o3 o4 o5 o6 o7 o8 o9 o10 o11 o12 o13 o14 o15 o16 o17 o18 o19 o20 o21 o22 o23 o24 o25 o26 : Value) (v_z_dots : Int32) (v_z_cool : Int32) (v_z_low : Int32) (v_z_high : Int32) (v_z_ghost : Int32) (v_z_dead : Int32) (x2 : Int32) {C64 : Int32 → (Nat → Int32) → (Nat → Int32) → Prop} (hC64 : ∀ (x3 : Int32) (v_pulses : Nat → Int32) (v_p1 : Nat → Int32), C64 x3 v_pulses v_p1 → g_G Γ (g_Rm 3 69) 5 64 [(3, .int x3)] [] (W_X8_printLines (g_env Γ) h0 h1 h2 o0 o1 o2 o3 o4 o5 o6 o7 o8 o9 o10 o11 o12 o13 o14 o15 o16 o17 o18 o19 o20 o21 o22 o23 o24 o25 o26 v_z_dots v_z_cool v_z_low v_z_high v_z_ghost v_z_dead v_pulses v_p1)) : ∀ (n : Nat) (x3 : Int32) (v_pulses : Nat → Int32) (v_p1 : Nat → Int32), P_X8_printLines_L2 v_z_dots v_z_cool v_z_low v_z_high v_z_ghost v_z_dead x2 C64 n x3 v_pulses v_p1 → g_G Γ (g_Rm 3 69) 5 2 [(0, .ref h0), (1, .ref h2), (2, .int x2), (3, .int x3)] [] (W_X8_printLines (g_env Γ) h0 h1 h2 o0 o1 o2 o3 o4 o5 o6 o7 o8 o9 o10 o11 o12 o13 o14 o15 o16 o17 o18 o19 o20 o21 o22 o23 o24 o25 o26 v_z_dots v_z_cool v_z_low v_z_high v_z_ghost v_z_dead v_pulses v_p1) := by
  intro n
  induction n with
  | zero => intro x3 v_pulses v_p1 h; exact False.elim h
  | succ n ih =>
    intro x3 v_pulses v_p1 h
    unfold P_X8_printLines_L2 at h
    refine g_iload_n 2 X dX8_printLines_2 3 rfl rfl ?_
    refine g_iload_n 3 X dX8_printLines_3 2 rfl rfl ?_
    refine g_icmp_ge 4 X 64 dX8_printLines_4 (by decide) (fun c => ?_) (fun c => ?_)
    · replace h := h.1 c
      refine g_sub [(3, .int x3)] [3] rfl ?_
      exact hC64 x3 v_pulses v_p1 h
    · replace h := h.2 c
      refine g_aload_n 7 X dX8_printLines_7 1 rfl rfl ?_
      refine g_bipush 8 X (21 : Int32) dX8_printLines_8 k_bp_21 ?_
      refine g_iald 10 X dX8_printLines_10 2 rfl rfl (vp_lit (by decide)) ?_
      refine g_if_le 11 X 64 dX8_printLines_11 (by decide) (fun c => ?_) (fun c => ?_)
      · replace h := h.1 c
        refine g_sub [(3, .int x3)] [3] rfl ?_
        exact hC64 x3 v_pulses v_p1 h
      · replace h := h.2 c
        refine g_aload_n 14 X dX8_printLines_14 1 rfl rfl ?_
        refine g_bipush 15 X (24 : Int32) dX8_printLines_15 k_bp_24 ?_
        refine g_iald 17 X dX8_printLines_17 2 rfl rfl (vp_lit (by decide)) ?_
        refine g_if_gt 18 X 28 dX8_printLines_18 (by decide) (fun c => ?_) (fun c => ?_)
        · replace h := h.1 c
          refine g_aload_n 28 X dX8_printLines_28 1 rfl rfl ?_
          refine g_cSI 29 X (st := []) mv_X8_148 dX8_printLines_29 [.ref h2] (c_X8_takeLine h2 v_p1 h) [2] (fun u : (Nat → Int32) => (W_X8_printLines (g_env Γ) h0 h1 h2 o0 o1 o2 o3 o4 o5 o6 o7 o8 o9 o10 o11 o12 o13 o14 o15 o16 o17 o18 o19 o20 o21 o22 o23 o24 o25 o26 v_z_dots v_z_cool v_z_low v_z_high v_z_ghost v_z_dead v_pulses u)) rfl ⟨(Nat.le_of_ble_eq_true rfl), (Nat.le_of_ble_eq_true rfl)⟩ ⟨rfl, rfl⟩ (Nat.le_of_ble_eq_true rfl) rfl (by decide) (fun _ => rfl) (fun _ => rfl) (fun r9 u h => ?_)
          obtain ⟨v_p1_10, rfl⟩ : ∃ z, z = u := ⟨_, rfl⟩
          refine g_istore 32 X [(4, .int r9), (0, .ref h0), (1, .ref h2), (2, .int x2), (3, .int x3)] dX8_printLines_32 (Nat.le_of_ble_eq_true rfl) rfl ?_
          refine g_aload_n 34 X dX8_printLines_34 1 rfl rfl ?_
          refine g_aload_n 35 X dX8_printLines_35 2 rfl rfl ?_
          refine g_iload 36 X dX8_printLines_36 0 rfl ?_
          refine g_cVV 38 X (st := []) mv_X8_152 dX8_printLines_38 h0 8 [.ref h2, .int r9] (c_X8_printOn h0 h1 h2 o0 o1 o2 o3 o4 o5 o6 o7 o8 o9 o10 o11 o12 o13 o14 o15 o16 o17 o18 o19 o20 o21 o22 o23 o24 o25 o26 v_z_dots v_z_cool v_z_low v_z_high v_z_ghost v_z_dead v_pulses v_p1_10 r9 h) [0, 1, 2] (fun u : (Nat → Int32) × (Nat → Int32) => (W_X8_printLines (g_env Γ) h0 h1 h2 o0 o1 o2 o3 o4 o5 o6 o7 o8 o9 o10 o11 o12 o13 o14 o15 o16 o17 o18 o19 o20 o21 o22 o23 o24 o25 o26 v_z_dots v_z_cool v_z_low v_z_high v_z_ghost v_z_dead u.1 u.2)) rfl ⟨(Nat.le_of_ble_eq_true rfl), (Nat.le_of_ble_eq_true rfl)⟩ ⟨rfl, rfl⟩ (Nat.le_of_ble_eq_true rfl) rfl rfl rfl (by decide) (fun _ => rfl) (fun _ => rfl) (fun u h => ?_)
          obtain ⟨v_pulses_11, v_p1_12⟩ := u
          dsimp only at h ⊢
          refine g_aload_n 41 X dX8_printLines_41 2 rfl rfl ?_
          refine g_bipush 42 X (24 : Int32) dX8_printLines_42 k_bp_24 ?_
          refine g_dup2 44 X dX8_printLines_44 rfl rfl ?_
          refine g_iald 45 X dX8_printLines_45 2 rfl rfl (vp_lit (by decide)) ?_
          refine g_iload 46 X dX8_printLines_46 0 rfl ?_
          refine g_if_eq 48 X 55 dX8_printLines_48 (by decide) (fun c => ?_) (fun c => ?_)
          · replace h := h.1 c
            refine g_iconst 55 X (0 : Int32) dX8_printLines_55 k_ic_0 ?_
            refine g_isub 56 X dX8_printLines_56 ?_
            refine g_iast 57 X (W_X8_printLines (g_env Γ) h0 h1 h2 o0 o1 o2 o3 o4 o5 o6 o7 o8 o9 o10 o11 o12 o13 o14 o15 o16 o17 o18 o19 o20 o21 o22 o23 o24 o25 o26 v_z_dots v_z_cool v_z_low v_z_high v_z_ghost v_z_dead v_pulses_11 (upd v_p1_12 (Int32.toNatClampNeg (24 : Int32)) ((v_p1_12 (Int32.toNatClampNeg (24 : Int32))) - (0 : Int32)))) dX8_printLines_57 2 rfl rfl (vp_lit (by decide)) rfl ?_
            refine g_iinc 58 X (x3 + (1 : Int32)) [(3, .int (x3 + (1 : Int32))), (4, .int r9), (0, .ref h0), (1, .ref h2), (2, .int x2)] dX8_printLines_58 4 rfl (k_ii_1 _) (Nat.le_of_ble_eq_true rfl) rfl ?_
            refine g_goto 61 X 2 dX8_printLines_61 (by decide) ?_
            refine g_sub [(0, .ref h0), (1, .ref h2), (2, .int x2), (3, .int (x3 + (1 : Int32)))] [2, 3, 4, 0] rfl ?_
            exact ih (x3 + (1 : Int32)) v_pulses_11 (upd v_p1_12 (Int32.toNatClampNeg (24 : Int32)) ((v_p1_12 (Int32.toNatClampNeg (24 : Int32))) - (0 : Int32))) h
          · replace h := h.2 c
            refine g_iconst 51 X (1 : Int32) dX8_printLines_51 k_ic_1 ?_
            refine g_goto 52 X 56 dX8_printLines_52 (by decide) ?_
            refine g_isub 56 X dX8_printLines_56 ?_
            refine g_iast 57 X (W_X8_printLines (g_env Γ) h0 h1 h2 o0 o1 o2 o3 o4 o5 o6 o7 o8 o9 o10 o11 o12 o13 o14 o15 o16 o17 o18 o19 o20 o21 o22 o23 o24 o25 o26 v_z_dots v_z_cool v_z_low v_z_high v_z_ghost v_z_dead v_pulses_11 (upd v_p1_12 (Int32.toNatClampNeg (24 : Int32)) ((v_p1_12 (Int32.toNatClampNeg (24 : Int32))) - (1 : Int32)))) dX8_printLines_57 2 rfl rfl (vp_lit (by decide)) rfl ?_
            refine g_iinc 58 X (x3 + (1 : Int32)) [(3, .int (x3 + (1 : Int32))), (4, .int r9), (0, .ref h0), (1, .ref h2), (2, .int x2)] dX8_printLines_58 4 rfl (k_ii_1 _) (Nat.le_of_ble_eq_true rfl) rfl ?_
            refine g_goto 61 X 2 dX8_printLines_61 (by decide) ?_
            refine g_sub [(0, .ref h0), (1, .ref h2), (2, .int x2), (3, .int (x3 + (1 : Int32)))] [2, 3, 4, 0] rfl ?_
            exact ih (x3 + (1 : Int32)) v_pulses_11 (upd v_p1_12 (Int32.toNatClampNeg (24 : Int32)) ((v_p1_12 (Int32.toNatClampNeg (24 : Int32))) - (1 : Int32))) h
        · replace h := h.2 c
          refine g_aload_n 21 X dX8_printLines_21 1 rfl rfl ?_
          refine g_bipush 22 X (13 : Int32) dX8_printLines_22 k_bp_13 ?_
          refine g_iald 24 X dX8_printLines_24 2 rfl rfl (vp_lit (by decide)) ?_
          refine g_if_ne 25 X 64 dX8_printLines_25 (by decide) (fun c => ?_) (fun c => ?_)
          · replace h := h.1 c
            refine g_sub [(3, .int x3)] [3] rfl ?_
            exact hC64 x3 v_pulses v_p1 h
          · replace h := h.2 c
            refine g_aload_n 28 X dX8_printLines_28 1 rfl rfl ?_
            refine g_cSI 29 X (st := []) mv_X8_148 dX8_printLines_29 [.ref h2] (c_X8_takeLine h2 v_p1 h) [2] (fun u : (Nat → Int32) => (W_X8_printLines (g_env Γ) h0 h1 h2 o0 o1 o2 o3 o4 o5 o6 o7 o8 o9 o10 o11 o12 o13 o14 o15 o16 o17 o18 o19 o20 o21 o22 o23 o24 o25 o26 v_z_dots v_z_cool v_z_low v_z_high v_z_ghost v_z_dead v_pulses u)) rfl ⟨(Nat.le_of_ble_eq_true rfl), (Nat.le_of_ble_eq_true rfl)⟩ ⟨rfl, rfl⟩ (Nat.le_of_ble_eq_true rfl) rfl (by decide) (fun _ => rfl) (fun _ => rfl) (fun r13 u h => ?_)
            obtain ⟨v_p1_14, rfl⟩ : ∃ z, z = u := ⟨_, rfl⟩
            refine g_istore 32 X [(4, .int r13), (0, .ref h0), (1, .ref h2), (2, .int x2), (3, .int x3)] dX8_printLines_32 (Nat.le_of_ble_eq_true rfl) rfl ?_
            refine g_aload_n 34 X dX8_printLines_34 1 rfl rfl ?_
            refine g_aload_n 35 X dX8_printLines_35 2 rfl rfl ?_
            refine g_iload 36 X dX8_printLines_36 0 rfl ?_
            refine g_cVV 38 X (st := []) mv_X8_152 dX8_printLines_38 h0 8 [.ref h2, .int r13] (c_X8_printOn h0 h1 h2 o0 o1 o2 o3 o4 o5 o6 o7 o8 o9 o10 o11 o12 o13 o14 o15 o16 o17 o18 o19 o20 o21 o22 o23 o24 o25 o26 v_z_dots v_z_cool v_z_low v_z_high v_z_ghost v_z_dead v_pulses v_p1_14 r13 h) [0, 1, 2] (fun u : (Nat → Int32) × (Nat → Int32) => (W_X8_printLines (g_env Γ) h0 h1 h2 o0 o1 o2 o3 o4 o5 o6 o7 o8 o9 o10 o11 o12 o13 o14 o15 o16 o17 o18 o19 o20 o21 o22 o23 o24 o25 o26 v_z_dots v_z_cool v_z_low v_z_high v_z_ghost v_z_dead u.1 u.2)) rfl ⟨(Nat.le_of_ble_eq_true rfl), (Nat.le_of_ble_eq_true rfl)⟩ ⟨rfl, rfl⟩ (Nat.le_of_ble_eq_true rfl) rfl rfl rfl (by decide) (fun _ => rfl) (fun _ => rfl) (fun u h => ?_)
            obtain ⟨v_pulses_15, v_p1_16⟩ := u
            dsimp only at h ⊢
            refine g_aload_n 41 X dX8_printLines_41 2 rfl rfl ?_
            refine g_bipush 42 X (24 : Int32) dX8_printLines_42 k_bp_24 ?_
            refine g_dup2 44 X dX8_printLines_44 rfl rfl ?_
            refine g_iald 45 X dX8_printLines_45 2 rfl rfl (vp_lit (by decide)) ?_
            refine g_iload 46 X dX8_printLines_46 0 rfl ?_
            refine g_if_eq 48 X 55 dX8_printLines_48 (by decide) (fun c => ?_) (fun c => ?_)
            · replace h := h.1 c
              refine g_iconst 55 X (0 : Int32) dX8_printLines_55 k_ic_0 ?_
              refine g_isub 56 X dX8_printLines_56 ?_
              refine g_iast 57 X (W_X8_printLines (g_env Γ) h0 h1 h2 o0 o1 o2 o3 o4 o5 o6 o7 o8 o9 o10 o11 o12 o13 o14 o15 o16 o17 o18 o19 o20 o21 o22 o23 o24 o25 o26 v_z_dots v_z_cool v_z_low v_z_high v_z_ghost v_z_dead v_pulses_15 (upd v_p1_16 (Int32.toNatClampNeg (24 : Int32)) ((v_p1_16 (Int32.toNatClampNeg (24 : Int32))) - (0 : Int32)))) dX8_printLines_57 2 rfl rfl (vp_lit (by decide)) rfl ?_
              refine g_iinc 58 X (x3 + (1 : Int32)) [(3, .int (x3 + (1 : Int32))), (4, .int r13), (0, .ref h0), (1, .ref h2), (2, .int x2)] dX8_printLines_58 4 rfl (k_ii_1 _) (Nat.le_of_ble_eq_true rfl) rfl ?_
              refine g_goto 61 X 2 dX8_printLines_61 (by decide) ?_
              refine g_sub [(0, .ref h0), (1, .ref h2), (2, .int x2), (3, .int (x3 + (1 : Int32)))] [2, 3, 4, 0] rfl ?_
              exact ih (x3 + (1 : Int32)) v_pulses_15 (upd v_p1_16 (Int32.toNatClampNeg (24 : Int32)) ((v_p1_16 (Int32.toNatClampNeg (24 : Int32))) - (0 : Int32))) h
            · replace h := h.2 c
              refine g_iconst 51 X (1 : Int32) dX8_printLines_51 k_ic_1 ?_
              refine g_goto 52 X 56 dX8_printLines_52 (by decide) ?_
              refine g_isub 56 X dX8_printLines_56 ?_
              refine g_iast 57 X (W_X8_printLines (g_env Γ) h0 h1 h2 o0 o1 o2 o3 o4 o5 o6 o7 o8 o9 o10 o11 o12 o13 o14 o15 o16 o17 o18 o19 o20 o21 o22 o23 o24 o25 o26 v_z_dots v_z_cool v_z_low v_z_high v_z_ghost v_z_dead v_pulses_15 (upd v_p1_16 (Int32.toNatClampNeg (24 : Int32)) ((v_p1_16 (Int32.toNatClampNeg (24 : Int32))) - (1 : Int32)))) dX8_printLines_57 2 rfl rfl (vp_lit (by decide)) rfl ?_
              refine g_iinc 58 X (x3 + (1 : Int32)) [(3, .int (x3 + (1 : Int32))), (4, .int r13), (0, .ref h0), (1, .ref h2), (2, .int x2)] dX8_printLines_58 4 rfl (k_ii_1 _) (Nat.le_of_ble_eq_true rfl) rfl ?_
              refine g_goto 61 X 2 dX8_printLines_61 (by decide) ?_
              refine g_sub [(0, .ref h0), (1, .ref h2), (2, .int x2), (3, .int (x3 + (1 : Int32)))] [2, 3, 4, 0] rfl ?_
              exact ih (x3 + (1 : Int32)) v_pulses_15 (upd v_p1_16 (Int32.toNatClampNeg (24 : Int32)) ((v_p1_16 (Int32.toNatClampNeg (24 : Int32))) - (1 : Int32))) h
set_option maxHeartbeats 4000000 in
set_option maxRecDepth 100000 in
theorem c_X8_printLines {l : Launch} {E : g_E} (h0 : Nat) (h1 : Nat) (h2 : Nat) (o0 o1 o2 o3 o4 o5 o6 o7 o8 o9 o10 o11 o12 o13 o14 o15 o16 o17 o18 o19 o20 o21 o22 o23 o24 o25 o26 : Value) (v_z_dots : Int32) (v_z_cool : Int32) (v_z_low : Int32) (v_z_high : Int32) (v_z_ghost : Int32) (v_z_dead : Int32) (v_pulses : Nat → Int32) (v_p1 : Nat → Int32) (b2 : Int32) {K : Int32 → (Nat → Int32) → (Nat → Int32) → Prop} (h : P_X8_printLines b2 v_z_dots v_z_cool v_z_low v_z_high v_z_ghost v_z_dead v_pulses v_p1 K) : g_CI l E yX8_printLines cX8_printLines 5 .int (g_Rm 3 69) [.ref h0, .ref h2, .int b2] (W_X8_printLines E h0 h1 h2 o0 o1 o2 o3 o4 o5 o6 o7 o8 o9 o10 o11 o12 o13 o14 o15 o16 o17 o18 o19 o20 o21 o22 o23 o24 o25 o26 v_z_dots v_z_cool v_z_low v_z_high v_z_ghost v_z_dead v_pulses v_p1) (fun r (u : (Nat → Int32) × (Nat → Int32)) => K r u.1 u.2) (fun (u : (Nat → Int32) × (Nat → Int32)) => (W_X8_printLines E h0 h1 h2 o0 o1 o2 o3 o4 o5 o6 o7 o8 o9 o10 o11 o12 o13 o14 o15 o16 o17 o18 o19 o20 o21 o22 o23 o24 o25 o26 v_z_dots v_z_cool v_z_low v_z_high v_z_ghost v_z_dead u.1 u.2)) := by
  refine g_entI RX8 (by decide) rfl (Nat.le_of_ble_eq_true rfl) ?_
  intro Γ X hE hl ret
  subst hE
  subst hl
  unfold P_X8_printLines at h
  show g_G Γ (g_Rm 3 69) 5 0 [(0, .ref h0), (1, .ref h2), (2, .int b2)] [] (W_X8_printLines (g_env Γ) h0 h1 h2 o0 o1 o2 o3 o4 o5 o6 o7 o8 o9 o10 o11 o12 o13 o14 o15 o16 o17 o18 o19 o20 o21 o22 o23 o24 o25 o26 v_z_dots v_z_cool v_z_low v_z_high v_z_ghost v_z_dead v_pulses v_p1)
  refine g_iconst 0 X (0 : Int32) dX8_printLines_0 k_ic_0 ?_
  refine g_istore_n 1 X [(3, .int (0 : Int32)), (0, .ref h0), (1, .ref h2), (2, .int b2)] dX8_printLines_1 rfl (Nat.le_of_ble_eq_true rfl) rfl ?_
  obtain ⟨n20, h⟩ := h
  refine g_sub [(0, .ref h0), (1, .ref h2), (2, .int b2), (3, .int (0 : Int32))] [1, 2, 3, 0] rfl ?_
  refine l_X8_printLines_2 X h0 h1 h2 o0 o1 o2 o3 o4 o5 o6 o7 o8 o9 o10 o11 o12 o13 o14 o15 o16 o17 o18 o19 o20 o21 o22 o23 o24 o25 o26 v_z_dots v_z_cool v_z_low v_z_high v_z_ghost v_z_dead b2 (fun x17 v_pulses_18 v_p1_19 h => ?_) n20 (0 : Int32) v_pulses v_p1 h
  · refine g_iload_n 64 X dX8_printLines_64 0 rfl rfl ?_
    exact ret 65 _ _ (v_pulses_18, v_p1_19) dX8_printLines_65 (vp_nar_int _) h

def W_X8_rightOfAll (E : g_E) (h0 : Nat) (h1 : Nat) (h2 : Nat) (o0 o1 o2 o3 o4 o5 o6 o7 o8 o9 o10 o11 o12 o13 o14 o15 o16 o17 o18 o19 o20 o21 o22 o23 o24 o25 : Value) (v_z_dots : Int32) (v_z_cool : Int32) (v_z_low : Int32) (v_z_high : Int32) (v_z_ghost : Int32) (v_z_dead : Int32) (v_trial : Nat → Int32) (v_pulses : Nat → Int32) : va_W := [(h0, .inr (8, [o0, o1, .int v_z_dots, .int v_z_cool, o2, .int v_z_low, .int v_z_high, .int v_z_ghost, o3, .ref h1, o4, o5, o6, o7, o8, o9, o10, o11, o12, o13, .int v_z_dead, .ref h2, o14, o15, o16, o17, o18, o19, o20, o21, o22, o23, o24, o25])), (h1, .inl (E.2.1, 30, .inl v_trial)), (h2, .inl (E.2.1, 8, .inl v_pulses))]
def P_X8_rightOfAll_L8 (v_z_dots : Int32) (v_z_cool : Int32) (v_z_low : Int32) (v_z_high : Int32) (v_z_ghost : Int32) (v_z_dead : Int32) (x1 : Int32) (C36 : (Nat → Int32) → (Nat → Int32) → Prop) : Nat → (Nat → Int32) → (Nat → Int32) → Prop
  | 0, _, _ => False
  | n + 1, v_trial, v_pulses => (((v_trial (Int32.toNatClampNeg (21 : Int32))) ≤ (0 : Int32) → C36 v_trial v_pulses) ∧ (¬ (v_trial (Int32.toNatClampNeg (21 : Int32))) ≤ (0 : Int32) → (P_X8_takeLine v_trial (fun r1 v_trial_2 => (P_X8_printOn r1 v_z_dots v_z_cool v_z_low v_z_high v_z_ghost v_z_dead v_pulses v_trial_2 (fun v_pulses_3 v_trial_4 => P_X8_rightOfAll_L8 v_z_dots v_z_cool v_z_low v_z_high v_z_ghost v_z_dead x1 C36 n v_trial_4 v_pulses_3))))))
def P_X8_rightOfAll (v_z_dots : Int32) (v_z_cool : Int32) (v_z_low : Int32) (v_z_high : Int32) (v_z_ghost : Int32) (v_z_dead : Int32) (v_trial : Nat → Int32) (v_pulses : Nat → Int32) (K : Int32 → (Nat → Int32) → (Nat → Int32) → Prop) : Prop := (∃ ne : Nat, P_X8_rightOfAll_L8 v_z_dots v_z_cool v_z_low v_z_high v_z_ghost v_z_dead (v_trial (Int32.toNatClampNeg (25 : Int32))) (fun v_trial_9 v_pulses_10 => K ((v_trial_9 (Int32.toNatClampNeg (25 : Int32))) - (v_trial (Int32.toNatClampNeg (25 : Int32)))) v_trial_9 v_pulses_10) ne v_trial v_pulses)
set_option maxHeartbeats 4000000 in
set_option maxRecDepth 100000 in
theorem l_X8_rightOfAll_8 {Γ : g_C} (X : g_X Γ (g_Rm 3 69) cX8_rightOfAll RX8 2) (h0 : Nat) (h1 : Nat) (h2 : Nat) (o0 o1 o2 o3 o4 o5 o6 o7 o8 o9 o10 o11 o12 o13 o14 o15 o16 o17 o18 o19 o20 o21 o22 o23 o24 o25 : Value) (v_z_dots : Int32) (v_z_cool : Int32) (v_z_low : Int32) (v_z_high : Int32) (v_z_ghost : Int32) (v_z_dead : Int32) (x1 : Int32) {C36 : (Nat → Int32) → (Nat → Int32) → Prop} (hC36 : ∀ (v_trial : Nat → Int32) (v_pulses : Nat → Int32), C36 v_trial v_pulses → g_G Γ (g_Rm 3 69) 2 36 [(0, .ref h0), (1, .int x1)] [] (W_X8_rightOfAll (g_env Γ) h0 h1 h2 o0 o1 o2 o3 o4 o5 o6 o7 o8 o9 o10 o11 o12 o13 o14 o15 o16 o17 o18 o19 o20 o21 o22 o23 o24 o25 v_z_dots v_z_cool v_z_low v_z_high v_z_ghost v_z_dead v_trial v_pulses)) : ∀ (n : Nat) (v_trial : Nat → Int32) (v_pulses : Nat → Int32), P_X8_rightOfAll_L8 v_z_dots v_z_cool v_z_low v_z_high v_z_ghost v_z_dead x1 C36 n v_trial v_pulses → g_G Γ (g_Rm 3 69) 2 8 [(0, .ref h0), (1, .int x1)] [] (W_X8_rightOfAll (g_env Γ) h0 h1 h2 o0 o1 o2 o3 o4 o5 o6 o7 o8 o9 o10 o11 o12 o13 o14 o15 o16 o17 o18 o19 o20 o21 o22 o23 o24 o25 v_z_dots v_z_cool v_z_low v_z_high v_z_ghost v_z_dead v_trial v_pulses) := by
  intro n
  induction n with
  | zero => intro v_trial v_pulses h; exact False.elim h
  | succ n ih =>
    intro v_trial v_pulses h
    unfold P_X8_rightOfAll_L8 at h
    refine g_aload_n 8 X dX8_rightOfAll_8 0 rfl rfl ?_
    refine g_get 9 X fa_X8_16 dX8_rightOfAll_9 0 rfl rfl ?_
    refine g_bipush 12 X (21 : Int32) dX8_rightOfAll_12 k_bp_21 ?_
    refine g_iald 14 X dX8_rightOfAll_14 1 rfl rfl (vp_lit (by decide)) ?_
    refine g_if_le 15 X 36 dX8_rightOfAll_15 (by decide) (fun c => ?_) (fun c => ?_)
    · replace h := h.1 c
      exact hC36 v_trial v_pulses h
    · replace h := h.2 c
      refine g_aload_n 18 X dX8_rightOfAll_18 0 rfl rfl ?_
      refine g_aload_n 19 X dX8_rightOfAll_19 0 rfl rfl ?_
      refine g_get 20 X fa_X8_16 dX8_rightOfAll_20 0 rfl rfl ?_
      refine g_aload_n 23 X dX8_rightOfAll_23 0 rfl rfl ?_
      refine g_get 24 X fa_X8_16 dX8_rightOfAll_24 0 rfl rfl ?_
      refine g_cSI 27 X (st := [.ref h1, .ref h0]) mv_X8_148 dX8_rightOfAll_27 [.ref h1] (c_X8_takeLine h1 v_trial h) [1] (fun u : (Nat → Int32) => (W_X8_rightOfAll (g_env Γ) h0 h1 h2 o0 o1 o2 o3 o4 o5 o6 o7 o8 o9 o10 o11 o12 o13 o14 o15 o16 o17 o18 o19 o20 o21 o22 o23 o24 o25 v_z_dots v_z_cool v_z_low v_z_high v_z_ghost v_z_dead u v_pulses)) rfl ⟨(Nat.le_of_ble_eq_true rfl), (Nat.le_of_ble_eq_true rfl)⟩ ⟨rfl, rfl⟩ (Nat.le_of_ble_eq_true rfl) rfl (by decide) (fun _ => rfl) (fun _ => rfl) (fun r5 u h => ?_)
      obtain ⟨v_trial_6, rfl⟩ : ∃ z, z = u := ⟨_, rfl⟩
      refine g_cVV 30 X (st := []) mv_X8_152 dX8_rightOfAll_30 h0 8 [.ref h1, .int r5] (c_X8_printOn h0 h2 h1 o0 o1 o2 o3 (.ref h1) o4 o5 o6 o7 o8 o9 o10 o11 o12 o13 o14 o15 o16 o17 o18 o19 o20 o21 o22 o23 o24 o25 v_z_dots v_z_cool v_z_low v_z_high v_z_ghost v_z_dead v_pulses v_trial_6 r5 h) [0, 2, 1] (fun u : (Nat → Int32) × (Nat → Int32) => (W_X8_rightOfAll (g_env Γ) h0 h1 h2 o0 o1 o2 o3 o4 o5 o6 o7 o8 o9 o10 o11 o12 o13 o14 o15 o16 o17 o18 o19 o20 o21 o22 o23 o24 o25 v_z_dots v_z_cool v_z_low v_z_high v_z_ghost v_z_dead u.2 u.1)) rfl ⟨(Nat.le_of_ble_eq_true rfl), (Nat.le_of_ble_eq_true rfl)⟩ ⟨rfl, rfl⟩ (Nat.le_of_ble_eq_true rfl) rfl rfl rfl (by decide) (fun _ => rfl) (fun _ => rfl) (fun u h => ?_)
      obtain ⟨v_pulses_7, v_trial_8⟩ := u
      dsimp only at h ⊢
      refine g_goto 33 X 8 dX8_rightOfAll_33 (by decide) ?_
      exact ih v_trial_8 v_pulses_7 h
set_option maxHeartbeats 4000000 in
set_option maxRecDepth 100000 in
theorem c_X8_rightOfAll {l : Launch} {E : g_E} (h0 : Nat) (h1 : Nat) (h2 : Nat) (o0 o1 o2 o3 o4 o5 o6 o7 o8 o9 o10 o11 o12 o13 o14 o15 o16 o17 o18 o19 o20 o21 o22 o23 o24 o25 : Value) (v_z_dots : Int32) (v_z_cool : Int32) (v_z_low : Int32) (v_z_high : Int32) (v_z_ghost : Int32) (v_z_dead : Int32) (v_trial : Nat → Int32) (v_pulses : Nat → Int32) {K : Int32 → (Nat → Int32) → (Nat → Int32) → Prop} (h : P_X8_rightOfAll v_z_dots v_z_cool v_z_low v_z_high v_z_ghost v_z_dead v_trial v_pulses K) : g_CI l E yX8_rightOfAll cX8_rightOfAll 2 .int (g_Rm 3 69) [.ref h0] (W_X8_rightOfAll E h0 h1 h2 o0 o1 o2 o3 o4 o5 o6 o7 o8 o9 o10 o11 o12 o13 o14 o15 o16 o17 o18 o19 o20 o21 o22 o23 o24 o25 v_z_dots v_z_cool v_z_low v_z_high v_z_ghost v_z_dead v_trial v_pulses) (fun r (u : (Nat → Int32) × (Nat → Int32)) => K r u.1 u.2) (fun (u : (Nat → Int32) × (Nat → Int32)) => (W_X8_rightOfAll E h0 h1 h2 o0 o1 o2 o3 o4 o5 o6 o7 o8 o9 o10 o11 o12 o13 o14 o15 o16 o17 o18 o19 o20 o21 o22 o23 o24 o25 v_z_dots v_z_cool v_z_low v_z_high v_z_ghost v_z_dead u.1 u.2)) := by
  refine g_entI RX8 (by decide) rfl (Nat.le_of_ble_eq_true rfl) ?_
  intro Γ X hE hl ret
  subst hE
  subst hl
  unfold P_X8_rightOfAll at h
  show g_G Γ (g_Rm 3 69) 2 0 [(0, .ref h0)] [] (W_X8_rightOfAll (g_env Γ) h0 h1 h2 o0 o1 o2 o3 o4 o5 o6 o7 o8 o9 o10 o11 o12 o13 o14 o15 o16 o17 o18 o19 o20 o21 o22 o23 o24 o25 v_z_dots v_z_cool v_z_low v_z_high v_z_ghost v_z_dead v_trial v_pulses)
  refine g_aload_n 0 X dX8_rightOfAll_0 0 rfl rfl ?_
  refine g_get 1 X fa_X8_16 dX8_rightOfAll_1 0 rfl rfl ?_
  refine g_bipush 4 X (25 : Int32) dX8_rightOfAll_4 k_bp_25 ?_
  refine g_iald 6 X dX8_rightOfAll_6 1 rfl rfl (vp_lit (by decide)) ?_
  refine g_istore_n 7 X [(1, .int (v_trial (Int32.toNatClampNeg (25 : Int32)))), (0, .ref h0)] dX8_rightOfAll_7 rfl (Nat.le_of_ble_eq_true rfl) rfl ?_
  obtain ⟨n11, h⟩ := h
  refine g_sub [(0, .ref h0), (1, .int (v_trial (Int32.toNatClampNeg (25 : Int32))))] [1, 0] rfl ?_
  refine l_X8_rightOfAll_8 X h0 h1 h2 o0 o1 o2 o3 o4 o5 o6 o7 o8 o9 o10 o11 o12 o13 o14 o15 o16 o17 o18 o19 o20 o21 o22 o23 o24 o25 v_z_dots v_z_cool v_z_low v_z_high v_z_ghost v_z_dead (v_trial (Int32.toNatClampNeg (25 : Int32))) (fun v_trial_9 v_pulses_10 h => ?_) n11 v_trial v_pulses h
  · refine g_aload_n 36 X dX8_rightOfAll_36 0 rfl rfl ?_
    refine g_get 37 X fa_X8_16 dX8_rightOfAll_37 0 rfl rfl ?_
    refine g_bipush 40 X (25 : Int32) dX8_rightOfAll_40 k_bp_25 ?_
    refine g_iald 42 X dX8_rightOfAll_42 1 rfl rfl (vp_lit (by decide)) ?_
    refine g_iload_n 43 X dX8_rightOfAll_43 1 rfl rfl ?_
    refine g_isub 44 X dX8_rightOfAll_44 ?_
    exact ret 45 _ _ (v_trial_9, v_pulses_10) dX8_rightOfAll_45 (vp_nar_int _) h

def W_X8_timeNow (E : g_E) (h0 : Nat) (h1 : Nat) (o0 o1 o2 o3 o4 o5 o6 o7 o8 o9 o10 o11 o12 o13 o14 o15 o16 o17 o18 o19 o20 o21 o22 o23 o24 o25 o26 o27 o28 o29 o30 : Value) (v_z_dots : Int32) (v_z_power : Int32) (v_pulses : Nat → Int32) : va_W := [(h0, .inr (8, [o0, o1, .int v_z_dots, o2, .int v_z_power, o3, o4, o5, o6, o7, o8, o9, o10, o11, o12, o13, o14, o15, o16, o17, o18, .ref h1, o19, o20, o21, o22, o23, o24, o25, o26, o27, o28, o29, o30])), (h1, .inl (E.2.1, 8, .inl v_pulses))]
def P_X8_timeNow_L14 (v_z_dots : Int32) (v_z_power : Int32) (v_pulses : Nat → Int32) (x3 : Int32) (C60 : Int32 → Int32 → Prop) : Nat → Int32 → Int32 → Int32 → Prop
  | 0, _, _, _ => False
  | n + 1, x1, x2, x4 => ((v_z_dots ≤ x4 → C60 x1 x2) ∧ (¬ v_z_dots ≤ x4 → (vp_in x4 8 ∧ ((¬ (v_pulses (Int32.toNatClampNeg x4)) = x3 → P_X8_timeNow_L14 v_z_dots v_z_power v_pulses x3 C60 n x1 x2 (x4 + (1 : Int32))) ∧ ((v_pulses (Int32.toNatClampNeg x4)) = x3 → (¬ v_z_power = 0 ∧ ((¬ (x2 - x2 / v_z_power * v_z_power) = (0 : Int32) → P_X8_timeNow_L14 v_z_dots v_z_power v_pulses x3 C60 n (x1 + (0 : Int32)) (x2 + (1 : Int32)) (x4 + (1 : Int32))) ∧ ((x2 - x2 / v_z_power * v_z_power) = (0 : Int32) → P_X8_timeNow_L14 v_z_dots v_z_power v_pulses x3 C60 n (x1 + x3) (x2 + (1 : Int32)) (x4 + (1 : Int32))))))))))
def P_X8_timeNow_L7 (v_z_dots : Int32) (v_z_power : Int32) (v_pulses : Nat → Int32) (C66 : Int32 → Prop) : Nat → Int32 → Int32 → Int32 → Prop
  | 0, _, _, _ => False
  | n + 1, x1, x2, x3 => ((x3 < (0 : Int32) → C66 x1) ∧ (¬ x3 < (0 : Int32) → (∃ ne : Nat, P_X8_timeNow_L14 v_z_dots v_z_power v_pulses x3 (fun x5 x6 => P_X8_timeNow_L7 v_z_dots v_z_power v_pulses C66 n x5 x6 (x3 + (-1 : Int32))) ne x1 x2 (0 : Int32))))
def P_X8_timeNow (v_z_dots : Int32) (v_z_power : Int32) (v_pulses : Nat → Int32) (K : Int32 → Prop) : Prop := (∃ ne : Nat, P_X8_timeNow_L7 v_z_dots v_z_power v_pulses (fun x11 => K x11) ne (0 : Int32) (0 : Int32) (9 : Int32))
set_option maxHeartbeats 4000000 in
set_option maxRecDepth 100000 in
theorem l_X8_timeNow_14 {Γ : g_C} (X : g_X Γ (g_Rm 0 0) cX8_timeNow RX8 5) (h0 : Nat) (h1 : Nat) (o0 o1 o2 o3 o4 o5 o6 o7 o8 o9 o10 o11 o12 o13 o14 o15 o16 o17 o18 o19 o20 o21 o22 o23 o24 o25 o26 o27 o28 o29 o30 : Value) (v_z_dots : Int32) (v_z_power : Int32) (v_pulses : Nat → Int32) (x3 : Int32) {C60 : Int32 → Int32 → Prop} (hC60 : ∀ (x1 : Int32) (x2 : Int32), C60 x1 x2 → g_G Γ (g_Rm 0 0) 5 60 [(0, .ref h0), (1, .int x1), (2, .int x2), (3, .int x3)] [] (W_X8_timeNow (g_env Γ) h0 h1 o0 o1 o2 o3 o4 o5 o6 o7 o8 o9 o10 o11 o12 o13 o14 o15 o16 o17 o18 o19 o20 o21 o22 o23 o24 o25 o26 o27 o28 o29 o30 v_z_dots v_z_power v_pulses)) : ∀ (n : Nat) (x1 : Int32) (x2 : Int32) (x4 : Int32), P_X8_timeNow_L14 v_z_dots v_z_power v_pulses x3 C60 n x1 x2 x4 → g_G Γ (g_Rm 0 0) 5 14 [(0, .ref h0), (1, .int x1), (2, .int x2), (3, .int x3), (4, .int x4)] [] (W_X8_timeNow (g_env Γ) h0 h1 o0 o1 o2 o3 o4 o5 o6 o7 o8 o9 o10 o11 o12 o13 o14 o15 o16 o17 o18 o19 o20 o21 o22 o23 o24 o25 o26 o27 o28 o29 o30 v_z_dots v_z_power v_pulses) := by
  intro n
  induction n with
  | zero => intro x1 x2 x4 h; exact False.elim h
  | succ n ih =>
    intro x1 x2 x4 h
    unfold P_X8_timeNow_L14 at h
    refine g_iload 14 X dX8_timeNow_14 4 rfl ?_
    refine g_aload_n 16 X dX8_timeNow_16 0 rfl rfl ?_
    refine g_get 17 X fa_X8_59 dX8_timeNow_17 0 rfl rfl ?_
    refine g_icmp_ge 20 X 60 dX8_timeNow_20 (by decide) (fun c => ?_) (fun c => ?_)
    · replace h := h.1 c
      refine g_sub [(0, .ref h0), (1, .int x1), (2, .int x2), (3, .int x3)] [0, 1, 2, 3] rfl ?_
      exact hC60 x1 x2 h
    · replace h := h.2 c
      refine g_aload_n 23 X dX8_timeNow_23 0 rfl rfl ?_
      refine g_get 24 X fa_X8_38 dX8_timeNow_24 0 rfl rfl ?_
      refine g_iload 27 X dX8_timeNow_27 4 rfl ?_
      have f3 := h.1; replace h := h.2
      refine g_iald 29 X dX8_timeNow_29 1 rfl rfl f3 ?_
      refine g_iload_n 30 X dX8_timeNow_30 3 rfl rfl ?_
      refine g_icmp_ne 31 X 54 dX8_timeNow_31 (by decide) (fun c => ?_) (fun c => ?_)
      · replace h := h.1 c
        refine g_iinc 54 X (x4 + (1 : Int32)) [(4, .int (x4 + (1 : Int32))), (0, .ref h0), (1, .int x1), (2, .int x2), (3, .int x3)] dX8_timeNow_54 4 rfl (k_ii_1 _) (Nat.le_of_ble_eq_true rfl) rfl ?_
        refine g_goto 57 X 14 dX8_timeNow_57 (by decide) ?_
        refine g_sub [(0, .ref h0), (1, .int x1), (2, .int x2), (3, .int x3), (4, .int (x4 + (1 : Int32)))] [1, 2, 3, 4, 0] rfl ?_
        exact ih x1 x2 (x4 + (1 : Int32)) h
      · replace h := h.2 c
        refine g_iload_n 34 X dX8_timeNow_34 1 rfl rfl ?_
        refine g_iload_n 35 X dX8_timeNow_35 2 rfl rfl ?_
        refine g_aload_n 36 X dX8_timeNow_36 0 rfl rfl ?_
        refine g_get 37 X fa_X8_66 dX8_timeNow_37 0 rfl rfl ?_
        have f4 := h.1; replace h := h.2
        refine g_irem 40 X dX8_timeNow_40 f4 ?_
        refine g_if_ne 41 X 48 dX8_timeNow_41 (by decide) (fun c => ?_) (fun c => ?_)
        · replace h := h.1 c
          refine g_iconst 48 X (0 : Int32) dX8_timeNow_48 k_ic_0 ?_
          refine g_iadd 49 X dX8_timeNow_49 ?_
          refine g_istore_n 50 X [(1, .int (x1 + (0 : Int32))), (0, .ref h0), (2, .int x2), (3, .int x3), (4, .int x4)] dX8_timeNow_50 rfl (Nat.le_of_ble_eq_true rfl) rfl ?_
          refine g_iinc 51 X (x2 + (1 : Int32)) [(2, .int (x2 + (1 : Int32))), (1, .int (x1 + (0 : Int32))), (0, .ref h0), (3, .int x3), (4, .int x4)] dX8_timeNow_51 2 rfl (k_ii_1 _) (Nat.le_of_ble_eq_true rfl) rfl ?_
          refine g_iinc 54 X (x4 + (1 : Int32)) [(4, .int (x4 + (1 : Int32))), (2, .int (x2 + (1 : Int32))), (1, .int (x1 + (0 : Int32))), (0, .ref h0), (3, .int x3)] dX8_timeNow_54 4 rfl (k_ii_1 _) (Nat.le_of_ble_eq_true rfl) rfl ?_
          refine g_goto 57 X 14 dX8_timeNow_57 (by decide) ?_
          refine g_sub [(0, .ref h0), (1, .int (x1 + (0 : Int32))), (2, .int (x2 + (1 : Int32))), (3, .int x3), (4, .int (x4 + (1 : Int32)))] [3, 2, 1, 4, 0] rfl ?_
          exact ih (x1 + (0 : Int32)) (x2 + (1 : Int32)) (x4 + (1 : Int32)) h
        · replace h := h.2 c
          refine g_iload_n 44 X dX8_timeNow_44 3 rfl rfl ?_
          refine g_goto 45 X 49 dX8_timeNow_45 (by decide) ?_
          refine g_iadd 49 X dX8_timeNow_49 ?_
          refine g_istore_n 50 X [(1, .int (x1 + x3)), (0, .ref h0), (2, .int x2), (3, .int x3), (4, .int x4)] dX8_timeNow_50 rfl (Nat.le_of_ble_eq_true rfl) rfl ?_
          refine g_iinc 51 X (x2 + (1 : Int32)) [(2, .int (x2 + (1 : Int32))), (1, .int (x1 + x3)), (0, .ref h0), (3, .int x3), (4, .int x4)] dX8_timeNow_51 2 rfl (k_ii_1 _) (Nat.le_of_ble_eq_true rfl) rfl ?_
          refine g_iinc 54 X (x4 + (1 : Int32)) [(4, .int (x4 + (1 : Int32))), (2, .int (x2 + (1 : Int32))), (1, .int (x1 + x3)), (0, .ref h0), (3, .int x3)] dX8_timeNow_54 4 rfl (k_ii_1 _) (Nat.le_of_ble_eq_true rfl) rfl ?_
          refine g_goto 57 X 14 dX8_timeNow_57 (by decide) ?_
          refine g_sub [(0, .ref h0), (1, .int (x1 + x3)), (2, .int (x2 + (1 : Int32))), (3, .int x3), (4, .int (x4 + (1 : Int32)))] [3, 2, 1, 4, 0] rfl ?_
          exact ih (x1 + x3) (x2 + (1 : Int32)) (x4 + (1 : Int32)) h
set_option maxHeartbeats 4000000 in
set_option maxRecDepth 100000 in
theorem l_X8_timeNow_7 {Γ : g_C} (X : g_X Γ (g_Rm 0 0) cX8_timeNow RX8 5) (h0 : Nat) (h1 : Nat) (o0 o1 o2 o3 o4 o5 o6 o7 o8 o9 o10 o11 o12 o13 o14 o15 o16 o17 o18 o19 o20 o21 o22 o23 o24 o25 o26 o27 o28 o29 o30 : Value) (v_z_dots : Int32) (v_z_power : Int32) (v_pulses : Nat → Int32) {C66 : Int32 → Prop} (hC66 : ∀ (x1 : Int32), C66 x1 → g_G Γ (g_Rm 0 0) 5 66 [(1, .int x1)] [] (W_X8_timeNow (g_env Γ) h0 h1 o0 o1 o2 o3 o4 o5 o6 o7 o8 o9 o10 o11 o12 o13 o14 o15 o16 o17 o18 o19 o20 o21 o22 o23 o24 o25 o26 o27 o28 o29 o30 v_z_dots v_z_power v_pulses)) : ∀ (n : Nat) (x1 : Int32) (x2 : Int32) (x3 : Int32), P_X8_timeNow_L7 v_z_dots v_z_power v_pulses C66 n x1 x2 x3 → g_G Γ (g_Rm 0 0) 5 7 [(0, .ref h0), (1, .int x1), (2, .int x2), (3, .int x3)] [] (W_X8_timeNow (g_env Γ) h0 h1 o0 o1 o2 o3 o4 o5 o6 o7 o8 o9 o10 o11 o12 o13 o14 o15 o16 o17 o18 o19 o20 o21 o22 o23 o24 o25 o26 o27 o28 o29 o30 v_z_dots v_z_power v_pulses) := by
  intro n
  induction n with
  | zero => intro x1 x2 x3 h; exact False.elim h
  | succ n ih =>
    intro x1 x2 x3 h
    unfold P_X8_timeNow_L7 at h
    refine g_iload_n 7 X dX8_timeNow_7 3 rfl rfl ?_
    refine g_if_lt 8 X 66 dX8_timeNow_8 (by decide) (fun c => ?_) (fun c => ?_)
    · replace h := h.1 c
      refine g_sub [(1, .int x1)] [1] rfl ?_
      exact hC66 x1 h
    · replace h := h.2 c
      refine g_iconst 11 X (0 : Int32) dX8_timeNow_11 k_ic_0 ?_
      refine g_istore 12 X [(4, .int (0 : Int32)), (0, .ref h0), (1, .int x1), (2, .int x2), (3, .int x3)] dX8_timeNow_12 (Nat.le_of_ble_eq_true rfl) rfl ?_
      obtain ⟨n10, h⟩ := h
      refine g_sub [(0, .ref h0), (1, .int x1), (2, .int x2), (3, .int x3), (4, .int (0 : Int32))] [1, 2, 3, 4, 0] rfl ?_
      refine l_X8_timeNow_14 X h0 h1 o0 o1 o2 o3 o4 o5 o6 o7 o8 o9 o10 o11 o12 o13 o14 o15 o16 o17 o18 o19 o20 o21 o22 o23 o24 o25 o26 o27 o28 o29 o30 v_z_dots v_z_power v_pulses x3 (fun x8 x9 h => ?_) n10 x1 x2 (0 : Int32) h
      · refine g_iinc 60 X (x3 + (-1 : Int32)) [(3, .int (x3 + (-1 : Int32))), (0, .ref h0), (1, .int x8), (2, .int x9)] dX8_timeNow_60 3 rfl (k_ii_m1 _) (Nat.le_of_ble_eq_true rfl) rfl ?_
        refine g_goto 63 X 7 dX8_timeNow_63 (by decide) ?_
        refine g_sub [(0, .ref h0), (1, .int x8), (2, .int x9), (3, .int (x3 + (-1 : Int32)))] [1, 2, 3, 0] rfl ?_
        exact ih x8 x9 (x3 + (-1 : Int32)) h
set_option maxHeartbeats 4000000 in
set_option maxRecDepth 100000 in
theorem c_X8_timeNow {l : Launch} {E : g_E} (h0 : Nat) (h1 : Nat) (o0 o1 o2 o3 o4 o5 o6 o7 o8 o9 o10 o11 o12 o13 o14 o15 o16 o17 o18 o19 o20 o21 o22 o23 o24 o25 o26 o27 o28 o29 o30 : Value) (v_z_dots : Int32) (v_z_power : Int32) (v_pulses : Nat → Int32) {K : Int32 → Prop} (h : P_X8_timeNow v_z_dots v_z_power v_pulses K) : g_CI l E yX8_timeNow cX8_timeNow 5 .int (g_Rm 0 0) [.ref h0] (W_X8_timeNow E h0 h1 o0 o1 o2 o3 o4 o5 o6 o7 o8 o9 o10 o11 o12 o13 o14 o15 o16 o17 o18 o19 o20 o21 o22 o23 o24 o25 o26 o27 o28 o29 o30 v_z_dots v_z_power v_pulses) (fun r (u : Unit) => K r) (fun (u : Unit) => (W_X8_timeNow E h0 h1 o0 o1 o2 o3 o4 o5 o6 o7 o8 o9 o10 o11 o12 o13 o14 o15 o16 o17 o18 o19 o20 o21 o22 o23 o24 o25 o26 o27 o28 o29 o30 v_z_dots v_z_power v_pulses)) := by
  refine g_entI RX8 (by decide) rfl (Nat.le_of_ble_eq_true rfl) ?_
  intro Γ X hE hl ret
  subst hE
  subst hl
  unfold P_X8_timeNow at h
  show g_G Γ (g_Rm 0 0) 5 0 [(0, .ref h0)] [] (W_X8_timeNow (g_env Γ) h0 h1 o0 o1 o2 o3 o4 o5 o6 o7 o8 o9 o10 o11 o12 o13 o14 o15 o16 o17 o18 o19 o20 o21 o22 o23 o24 o25 o26 o27 o28 o29 o30 v_z_dots v_z_power v_pulses)
  refine g_iconst 0 X (0 : Int32) dX8_timeNow_0 k_ic_0 ?_
  refine g_istore_n 1 X [(1, .int (0 : Int32)), (0, .ref h0)] dX8_timeNow_1 rfl (Nat.le_of_ble_eq_true rfl) rfl ?_
  refine g_iconst 2 X (0 : Int32) dX8_timeNow_2 k_ic_0 ?_
  refine g_istore_n 3 X [(2, .int (0 : Int32)), (1, .int (0 : Int32)), (0, .ref h0)] dX8_timeNow_3 rfl (Nat.le_of_ble_eq_true rfl) rfl ?_
  refine g_bipush 4 X (9 : Int32) dX8_timeNow_4 k_bp_9 ?_
  refine g_istore_n 6 X [(3, .int (9 : Int32)), (2, .int (0 : Int32)), (1, .int (0 : Int32)), (0, .ref h0)] dX8_timeNow_6 rfl (Nat.le_of_ble_eq_true rfl) rfl ?_
  obtain ⟨n12, h⟩ := h
  refine g_sub [(0, .ref h0), (1, .int (0 : Int32)), (2, .int (0 : Int32)), (3, .int (9 : Int32))] [3, 2, 1, 0] rfl ?_
  refine l_X8_timeNow_7 X h0 h1 o0 o1 o2 o3 o4 o5 o6 o7 o8 o9 o10 o11 o12 o13 o14 o15 o16 o17 o18 o19 o20 o21 o22 o23 o24 o25 o26 o27 o28 o29 o30 v_z_dots v_z_power v_pulses (fun x11 h => ?_) n12 (0 : Int32) (0 : Int32) (9 : Int32) h
  · refine g_iload_n 66 X dX8_timeNow_66 0 rfl rfl ?_
    exact ret 67 _ _ () dX8_timeNow_67 (vp_nar_int _) h

def W_X8_timeOf (E : g_E) (h0 : Nat) (h1 : Nat) (h2 : Nat) (o0 o1 o2 o3 o4 o5 o6 o7 o8 o9 o10 o11 o12 o13 o14 o15 o16 o17 o18 o19 o20 o21 o22 o23 o24 o25 o26 o27 o28 o29 : Value) (v_z_dots : Int32) (v_z_power : Int32) (v_now : Nat → Int32) (v_pulses : Nat → Int32) : va_W := [(h0, .inr (8, [o0, o1, .int v_z_dots, o2, .int v_z_power, o3, o4, o5, .ref h1, o6, o7, o8, o9, o10, o11, o12, o13, o14, o15, o16, o17, .ref h2, o18, o19, o20, o21, o22, o23, o24, o25, o26, o27, o28, o29])), (h1, .inl (E.2.1, 30, .inl v_now)), (h2, .inl (E.2.1, 8, .inl v_pulses))]
def P_X8_timeOf (b1 : Int32) (v_z_dots : Int32) (v_z_power : Int32) (v_now : Nat → Int32) (v_pulses : Nat → Int32) (K : Int32 → (Nat → Int32) → Prop) : Prop := ((b1 ≤ (0 : Int32) → ((b1 ≤ (1 : Int32) → ((¬ b1 = (1 : Int32) → (vp_in ((13 : Int32) + b1) 30 ∧ (P_X8_layPulses (v_now (Int32.toNatClampNeg ((13 : Int32) + b1))) (v_now (Int32.toNatClampNeg (22 : Int32))) (v_now (Int32.toNatClampNeg (23 : Int32))) v_z_dots v_pulses v_now (fun v_pulses_2 => (P_X8_timeNow v_z_dots v_z_power v_pulses_2 (fun r3 => K r3 v_pulses_2)))))) ∧ (b1 = (1 : Int32) → (vp_in ((13 : Int32) + b1) 30 ∧ (P_X8_layPulses (v_now (Int32.toNatClampNeg ((13 : Int32) + b1))) (v_now (Int32.toNatClampNeg (22 : Int32))) (v_now (Int32.toNatClampNeg (22 : Int32))) v_z_dots v_pulses v_now (fun v_pulses_5 => (P_X8_timeNow v_z_dots v_z_power v_pulses_5 (fun r6 => K r6 v_pulses_5)))))))) ∧ (¬ b1 ≤ (1 : Int32) → (vp_in (((13 : Int32) + b1) - (2 : Int32)) 30 ∧ (vp_in ((13 : Int32) + b1) 30 ∧ (P_X8_layPulses (v_now (Int32.toNatClampNeg ((13 : Int32) + b1))) (v_now (Int32.toNatClampNeg (22 : Int32))) (v_now (Int32.toNatClampNeg (((13 : Int32) + b1) - (2 : Int32)))) v_z_dots v_pulses v_now (fun v_pulses_9 => (P_X8_timeNow v_z_dots v_z_power v_pulses_9 (fun r10 => K r10 v_pulses_9))))))))) ∧ (¬ b1 ≤ (0 : Int32) → (vp_in (((13 : Int32) + b1) - (1 : Int32)) 30 ∧ ((b1 ≤ (1 : Int32) → ((¬ b1 = (1 : Int32) → (vp_in ((13 : Int32) + b1) 30 ∧ (P_X8_layPulses (v_now (Int32.toNatClampNeg ((13 : Int32) + b1))) (v_now (Int32.toNatClampNeg (((13 : Int32) + b1) - (1 : Int32)))) (v_now (Int32.toNatClampNeg (23 : Int32))) v_z_dots v_pulses v_now (fun v_pulses_13 => (P_X8_timeNow v_z_dots v_z_power v_pulses_13 (fun r14 => K r14 v_pulses_13)))))) ∧ (b1 = (1 : Int32) → (vp_in ((13 : Int32) + b1) 30 ∧ (P_X8_layPulses (v_now (Int32.toNatClampNeg ((13 : Int32) + b1))) (v_now (Int32.toNatClampNeg (((13 : Int32) + b1) - (1 : Int32)))) (v_now (Int32.toNatClampNeg (22 : Int32))) v_z_dots v_pulses v_now (fun v_pulses_16 => (P_X8_timeNow v_z_dots v_z_power v_pulses_16 (fun r17 => K r17 v_pulses_16)))))))) ∧ (¬ b1 ≤ (1 : Int32) → (vp_in (((13 : Int32) + b1) - (2 : Int32)) 30 ∧ (vp_in ((13 : Int32) + b1) 30 ∧ (P_X8_layPulses (v_now (Int32.toNatClampNeg ((13 : Int32) + b1))) (v_now (Int32.toNatClampNeg (((13 : Int32) + b1) - (1 : Int32)))) (v_now (Int32.toNatClampNeg (((13 : Int32) + b1) - (2 : Int32)))) v_z_dots v_pulses v_now (fun v_pulses_20 => (P_X8_timeNow v_z_dots v_z_power v_pulses_20 (fun r21 => K r21 v_pulses_20)))))))))))
set_option maxHeartbeats 4000000 in
set_option maxRecDepth 100000 in
theorem c_X8_timeOf {l : Launch} {E : g_E} (h0 : Nat) (h1 : Nat) (h2 : Nat) (o0 o1 o2 o3 o4 o5 o6 o7 o8 o9 o10 o11 o12 o13 o14 o15 o16 o17 o18 o19 o20 o21 o22 o23 o24 o25 o26 o27 o28 o29 : Value) (v_z_dots : Int32) (v_z_power : Int32) (v_now : Nat → Int32) (v_pulses : Nat → Int32) (b1 : Int32) {K : Int32 → (Nat → Int32) → Prop} (h : P_X8_timeOf b1 v_z_dots v_z_power v_now v_pulses K) : g_CI l E yX8_timeOf cX8_timeOf 4 .int (g_Rm 2 47) [.ref h0, .int b1] (W_X8_timeOf E h0 h1 h2 o0 o1 o2 o3 o4 o5 o6 o7 o8 o9 o10 o11 o12 o13 o14 o15 o16 o17 o18 o19 o20 o21 o22 o23 o24 o25 o26 o27 o28 o29 v_z_dots v_z_power v_now v_pulses) (fun r (u : (Nat → Int32)) => K r u) (fun (u : (Nat → Int32)) => (W_X8_timeOf E h0 h1 h2 o0 o1 o2 o3 o4 o5 o6 o7 o8 o9 o10 o11 o12 o13 o14 o15 o16 o17 o18 o19 o20 o21 o22 o23 o24 o25 o26 o27 o28 o29 v_z_dots v_z_power v_now u)) := by
  refine g_entI RX8 (by decide) rfl (Nat.le_of_ble_eq_true rfl) ?_
  intro Γ X hE hl ret
  subst hE
  subst hl
  unfold P_X8_timeOf at h
  show g_G Γ (g_Rm 2 47) 4 0 [(0, .ref h0), (1, .int b1)] [] (W_X8_timeOf (g_env Γ) h0 h1 h2 o0 o1 o2 o3 o4 o5 o6 o7 o8 o9 o10 o11 o12 o13 o14 o15 o16 o17 o18 o19 o20 o21 o22 o23 o24 o25 o26 o27 o28 o29 v_z_dots v_z_power v_now v_pulses)
  refine g_iload_n 0 X dX8_timeOf_0 1 rfl rfl ?_
  refine g_if_le 1 X 18 dX8_timeOf_1 (by decide) (fun c => ?_) (fun c => ?_)
  · replace h := h.1 c
    refine g_aload_n 18 X dX8_timeOf_18 0 rfl rfl ?_
    refine g_get 19 X fa_X8_13 dX8_timeOf_19 0 rfl rfl ?_
    refine g_bipush 22 X (22 : Int32) dX8_timeOf_22 k_bp_22 ?_
    refine g_iald 24 X dX8_timeOf_24 1 rfl rfl (vp_lit (by decide)) ?_
    refine g_istore_n 25 X [(2, .int (v_now (Int32.toNatClampNeg (22 : Int32)))), (0, .ref h0), (1, .int b1)] dX8_timeOf_25 rfl (Nat.le_of_ble_eq_true rfl) rfl ?_
    refine g_iload_n 26 X dX8_timeOf_26 2 rfl rfl ?_
    refine g_iconst 27 X (1 : Int32) dX8_timeOf_27 k_ic_1 ?_
    refine g_icmp_le 28 X 45 dX8_timeOf_28 (by decide) (fun c => ?_) (fun c => ?_)
    · replace h := h.1 c
      refine g_iload_n 45 X dX8_timeOf_45 2 rfl rfl ?_
      refine g_iconst 46 X (1 : Int32) dX8_timeOf_46 k_ic_1 ?_
      refine g_icmp_ne 47 X 60 dX8_timeOf_47 (by decide) (fun c => ?_) (fun c => ?_)
      · replace h := h.1 c
        refine g_aload_n 60 X dX8_timeOf_60 1 rfl rfl ?_
        refine g_get 61 X fa_X8_13 dX8_timeOf_61 0 rfl rfl ?_
        refine g_bipush 64 X (23 : Int32) dX8_timeOf_64 k_bp_23 ?_
        refine g_iald 66 X dX8_timeOf_66 1 rfl rfl (vp_lit (by decide)) ?_
        refine g_istore_n 67 X [(3, .int (v_now (Int32.toNatClampNeg (23 : Int32)))), (2, .int (v_now (Int32.toNatClampNeg (22 : Int32)))), (0, .ref h0), (1, .int b1)] dX8_timeOf_67 rfl (Nat.le_of_ble_eq_true rfl) rfl ?_
        refine g_aload_n 68 X dX8_timeOf_68 2 rfl rfl ?_
        refine g_aload_n 69 X dX8_timeOf_69 2 rfl rfl ?_
        refine g_get 70 X fa_X8_13 dX8_timeOf_70 0 rfl rfl ?_
        refine g_aload_n 73 X dX8_timeOf_73 2 rfl rfl ?_
        refine g_get 74 X fa_X8_13 dX8_timeOf_74 0 rfl rfl ?_
        refine g_bipush 77 X (13 : Int32) dX8_timeOf_77 k_bp_13 ?_
        refine g_iload_n 79 X dX8_timeOf_79 3 rfl rfl ?_
        refine g_iadd 80 X dX8_timeOf_80 ?_
        have f1 := h.1; replace h := h.2
        refine g_iald 81 X dX8_timeOf_81 1 rfl rfl f1 ?_
        refine g_iload_n 82 X dX8_timeOf_82 1 rfl rfl ?_
        refine g_iload_n 83 X dX8_timeOf_83 0 rfl rfl ?_
        refine g_cVV 84 X (st := []) mv_X8_137 dX8_timeOf_84 h0 8 [.ref h1, .int (v_now (Int32.toNatClampNeg ((13 : Int32) + b1))), .int (v_now (Int32.toNatClampNeg (22 : Int32))), .int (v_now (Int32.toNatClampNeg (23 : Int32)))] (c_X8_layPulses h0 h2 h1 o0 o1 o2 (.int v_z_power) o3 o4 o5 (.ref h1) o6 o7 o8 o9 o10 o11 o12 o13 o14 o15 o16 o17 o18 o19 o20 o21 o22 o23 o24 o25 o26 o27 o28 o29 v_z_dots v_pulses v_now (v_now (Int32.toNatClampNeg ((13 : Int32) + b1))) (v_now (Int32.toNatClampNeg (22 : Int32))) (v_now (Int32.toNatClampNeg (23 : Int32))) h) [0, 2, 1] (fun u : (Nat → Int32) => (W_X8_timeOf (g_env Γ) h0 h1 h2 o0 o1 o2 o3 o4 o5 o6 o7 o8 o9 o10 o11 o12 o13 o14 o15 o16 o17 o18 o19 o20 o21 o22 o23 o24 o25 o26 o27 o28 o29 v_z_dots v_z_power v_now u)) rfl ⟨(Nat.le_of_ble_eq_true rfl), (Nat.le_of_ble_eq_true rfl)⟩ ⟨rfl, rfl⟩ (Nat.le_of_ble_eq_true rfl) rfl rfl rfl (by decide) (fun _ => rfl) (fun _ => rfl) (fun u h => ?_)
        obtain ⟨v_pulses_2, rfl⟩ : ∃ z, z = u := ⟨_, rfl⟩
        refine g_aload_n 87 X dX8_timeOf_87 2 rfl rfl ?_
        refine g_cVI 88 X (st := []) mv_X8_155 dX8_timeOf_88 h0 8 [] (c_X8_timeNow h0 h2 o0 o1 o2 o3 o4 o5 (.ref h1) o6 o7 o8 o9 o10 o11 o12 o13 o14 o15 o16 o17 o18 o19 o20 o21 o22 o23 o24 o25 o26 o27 o28 o29 v_z_dots v_z_power v_pulses_2 h) [0, 2] (fun u : Unit => (W_X8_timeOf (g_env Γ) h0 h1 h2 o0 o1 o2 o3 o4 o5 o6 o7 o8 o9 o10 o11 o12 o13 o14 o15 o16 o17 o18 o19 o20 o21 o22 o23 o24 o25 o26 o27 o28 o29 v_z_dots v_z_power v_now v_pulses_2)) rfl ⟨(Nat.le_of_ble_eq_true rfl), (Nat.le_of_ble_eq_true rfl)⟩ ⟨rfl, rfl⟩ (Nat.le_of_ble_eq_true rfl) rfl rfl rfl (by decide) (fun _ => rfl) (fun _ => rfl) (fun r3 u h => ?_)
        exact ret 91 _ _ (v_pulses_2) dX8_timeOf_91 (vp_nar_int _) h
      · replace h := h.2 c
        refine g_aload_n 50 X dX8_timeOf_50 1 rfl rfl ?_
        refine g_get 51 X fa_X8_13 dX8_timeOf_51 0 rfl rfl ?_
        refine g_bipush 54 X (22 : Int32) dX8_timeOf_54 k_bp_22 ?_
        refine g_iald 56 X dX8_timeOf_56 1 rfl rfl (vp_lit (by decide)) ?_
        refine g_goto 57 X 67 dX8_timeOf_57 (by decide) ?_
        refine g_istore_n 67 X [(3, .int (v_now (Int32.toNatClampNeg (22 : Int32)))), (2, .int (v_now (Int32.toNatClampNeg (22 : Int32)))), (0, .ref h0), (1, .int b1)] dX8_timeOf_67 rfl (Nat.le_of_ble_eq_true rfl) rfl ?_
        refine g_aload_n 68 X dX8_timeOf_68 2 rfl rfl ?_
        refine g_aload_n 69 X dX8_timeOf_69 2 rfl rfl ?_
        refine g_get 70 X fa_X8_13 dX8_timeOf_70 0 rfl rfl ?_
        refine g_aload_n 73 X dX8_timeOf_73 2 rfl rfl ?_
        refine g_get 74 X fa_X8_13 dX8_timeOf_74 0 rfl rfl ?_
        refine g_bipush 77 X (13 : Int32) dX8_timeOf_77 k_bp_13 ?_
        refine g_iload_n 79 X dX8_timeOf_79 3 rfl rfl ?_
        refine g_iadd 80 X dX8_timeOf_80 ?_
        have f4 := h.1; replace h := h.2
        refine g_iald 81 X dX8_timeOf_81 1 rfl rfl f4 ?_
        refine g_iload_n 82 X dX8_timeOf_82 1 rfl rfl ?_
        refine g_iload_n 83 X dX8_timeOf_83 0 rfl rfl ?_
        refine g_cVV 84 X (st := []) mv_X8_137 dX8_timeOf_84 h0 8 [.ref h1, .int (v_now (Int32.toNatClampNeg ((13 : Int32) + b1))), .int (v_now (Int32.toNatClampNeg (22 : Int32))), .int (v_now (Int32.toNatClampNeg (22 : Int32)))] (c_X8_layPulses h0 h2 h1 o0 o1 o2 (.int v_z_power) o3 o4 o5 (.ref h1) o6 o7 o8 o9 o10 o11 o12 o13 o14 o15 o16 o17 o18 o19 o20 o21 o22 o23 o24 o25 o26 o27 o28 o29 v_z_dots v_pulses v_now (v_now (Int32.toNatClampNeg ((13 : Int32) + b1))) (v_now (Int32.toNatClampNeg (22 : Int32))) (v_now (Int32.toNatClampNeg (22 : Int32))) h) [0, 2, 1] (fun u : (Nat → Int32) => (W_X8_timeOf (g_env Γ) h0 h1 h2 o0 o1 o2 o3 o4 o5 o6 o7 o8 o9 o10 o11 o12 o13 o14 o15 o16 o17 o18 o19 o20 o21 o22 o23 o24 o25 o26 o27 o28 o29 v_z_dots v_z_power v_now u)) rfl ⟨(Nat.le_of_ble_eq_true rfl), (Nat.le_of_ble_eq_true rfl)⟩ ⟨rfl, rfl⟩ (Nat.le_of_ble_eq_true rfl) rfl rfl rfl (by decide) (fun _ => rfl) (fun _ => rfl) (fun u h => ?_)
        obtain ⟨v_pulses_5, rfl⟩ : ∃ z, z = u := ⟨_, rfl⟩
        refine g_aload_n 87 X dX8_timeOf_87 2 rfl rfl ?_
        refine g_cVI 88 X (st := []) mv_X8_155 dX8_timeOf_88 h0 8 [] (c_X8_timeNow h0 h2 o0 o1 o2 o3 o4 o5 (.ref h1) o6 o7 o8 o9 o10 o11 o12 o13 o14 o15 o16 o17 o18 o19 o20 o21 o22 o23 o24 o25 o26 o27 o28 o29 v_z_dots v_z_power v_pulses_5 h) [0, 2] (fun u : Unit => (W_X8_timeOf (g_env Γ) h0 h1 h2 o0 o1 o2 o3 o4 o5 o6 o7 o8 o9 o10 o11 o12 o13 o14 o15 o16 o17 o18 o19 o20 o21 o22 o23 o24 o25 o26 o27 o28 o29 v_z_dots v_z_power v_now v_pulses_5)) rfl ⟨(Nat.le_of_ble_eq_true rfl), (Nat.le_of_ble_eq_true rfl)⟩ ⟨rfl, rfl⟩ (Nat.le_of_ble_eq_true rfl) rfl rfl rfl (by decide) (fun _ => rfl) (fun _ => rfl) (fun r6 u h => ?_)
        exact ret 91 _ _ (v_pulses_5) dX8_timeOf_91 (vp_nar_int _) h
    · replace h := h.2 c
      refine g_aload_n 31 X dX8_timeOf_31 1 rfl rfl ?_
      refine g_get 32 X fa_X8_13 dX8_timeOf_32 0 rfl rfl ?_
      refine g_bipush 35 X (13 : Int32) dX8_timeOf_35 k_bp_13 ?_
      refine g_iload_n 37 X dX8_timeOf_37 2 rfl rfl ?_
      refine g_iadd 38 X dX8_timeOf_38 ?_
      refine g_iconst 39 X (2 : Int32) dX8_timeOf_39 k_ic_2 ?_
      refine g_isub 40 X dX8_timeOf_40 ?_
      have f7 := h.1; replace h := h.2
      refine g_iald 41 X dX8_timeOf_41 1 rfl rfl f7 ?_
      refine g_goto 42 X 67 dX8_timeOf_42 (by decide) ?_
      refine g_istore_n 67 X [(3, .int (v_now (Int32.toNatClampNeg (((13 : Int32) + b1) - (2 : Int32))))), (2, .int (v_now (Int32.toNatClampNeg (22 : Int32)))), (0, .ref h0), (1, .int b1)] dX8_timeOf_67 rfl (Nat.le_of_ble_eq_true rfl) rfl ?_
      refine g_aload_n 68 X dX8_timeOf_68 2 rfl rfl ?_
      refine g_aload_n 69 X dX8_timeOf_69 2 rfl rfl ?_
      refine g_get 70 X fa_X8_13 dX8_timeOf_70 0 rfl rfl ?_
      refine g_aload_n 73 X dX8_timeOf_73 2 rfl rfl ?_
      refine g_get 74 X fa_X8_13 dX8_timeOf_74 0 rfl rfl ?_
      refine g_bipush 77 X (13 : Int32) dX8_timeOf_77 k_bp_13 ?_
      refine g_iload_n 79 X dX8_timeOf_79 3 rfl rfl ?_
      refine g_iadd 80 X dX8_timeOf_80 ?_
      have f8 := h.1; replace h := h.2
      refine g_iald 81 X dX8_timeOf_81 1 rfl rfl f8 ?_
      refine g_iload_n 82 X dX8_timeOf_82 1 rfl rfl ?_
      refine g_iload_n 83 X dX8_timeOf_83 0 rfl rfl ?_
      refine g_cVV 84 X (st := []) mv_X8_137 dX8_timeOf_84 h0 8 [.ref h1, .int (v_now (Int32.toNatClampNeg ((13 : Int32) + b1))), .int (v_now (Int32.toNatClampNeg (22 : Int32))), .int (v_now (Int32.toNatClampNeg (((13 : Int32) + b1) - (2 : Int32))))] (c_X8_layPulses h0 h2 h1 o0 o1 o2 (.int v_z_power) o3 o4 o5 (.ref h1) o6 o7 o8 o9 o10 o11 o12 o13 o14 o15 o16 o17 o18 o19 o20 o21 o22 o23 o24 o25 o26 o27 o28 o29 v_z_dots v_pulses v_now (v_now (Int32.toNatClampNeg ((13 : Int32) + b1))) (v_now (Int32.toNatClampNeg (22 : Int32))) (v_now (Int32.toNatClampNeg (((13 : Int32) + b1) - (2 : Int32)))) h) [0, 2, 1] (fun u : (Nat → Int32) => (W_X8_timeOf (g_env Γ) h0 h1 h2 o0 o1 o2 o3 o4 o5 o6 o7 o8 o9 o10 o11 o12 o13 o14 o15 o16 o17 o18 o19 o20 o21 o22 o23 o24 o25 o26 o27 o28 o29 v_z_dots v_z_power v_now u)) rfl ⟨(Nat.le_of_ble_eq_true rfl), (Nat.le_of_ble_eq_true rfl)⟩ ⟨rfl, rfl⟩ (Nat.le_of_ble_eq_true rfl) rfl rfl rfl (by decide) (fun _ => rfl) (fun _ => rfl) (fun u h => ?_)
      obtain ⟨v_pulses_9, rfl⟩ : ∃ z, z = u := ⟨_, rfl⟩
      refine g_aload_n 87 X dX8_timeOf_87 2 rfl rfl ?_
      refine g_cVI 88 X (st := []) mv_X8_155 dX8_timeOf_88 h0 8 [] (c_X8_timeNow h0 h2 o0 o1 o2 o3 o4 o5 (.ref h1) o6 o7 o8 o9 o10 o11 o12 o13 o14 o15 o16 o17 o18 o19 o20 o21 o22 o23 o24 o25 o26 o27 o28 o29 v_z_dots v_z_power v_pulses_9 h) [0, 2] (fun u : Unit => (W_X8_timeOf (g_env Γ) h0 h1 h2 o0 o1 o2 o3 o4 o5 o6 o7 o8 o9 o10 o11 o12 o13 o14 o15 o16 o17 o18 o19 o20 o21 o22 o23 o24 o25 o26 o27 o28 o29 v_z_dots v_z_power v_now v_pulses_9)) rfl ⟨(Nat.le_of_ble_eq_true rfl), (Nat.le_of_ble_eq_true rfl)⟩ ⟨rfl, rfl⟩ (Nat.le_of_ble_eq_true rfl) rfl rfl rfl (by decide) (fun _ => rfl) (fun _ => rfl) (fun r10 u h => ?_)
      exact ret 91 _ _ (v_pulses_9) dX8_timeOf_91 (vp_nar_int _) h
  · replace h := h.2 c
    refine g_aload_n 4 X dX8_timeOf_4 0 rfl rfl ?_
    refine g_get 5 X fa_X8_13 dX8_timeOf_5 0 rfl rfl ?_
    refine g_bipush 8 X (13 : Int32) dX8_timeOf_8 k_bp_13 ?_
    refine g_iload_n 10 X dX8_timeOf_10 1 rfl rfl ?_
    refine g_iadd 11 X dX8_timeOf_11 ?_
    refine g_iconst 12 X (1 : Int32) dX8_timeOf_12 k_ic_1 ?_
    refine g_isub 13 X dX8_timeOf_13 ?_
    have f11 := h.1; replace h := h.2
    refine g_iald 14 X dX8_timeOf_14 1 rfl rfl f11 ?_
    refine g_goto 15 X 25 dX8_timeOf_15 (by decide) ?_
    refine g_istore_n 25 X [(2, .int (v_now (Int32.toNatClampNeg (((13 : Int32) + b1) - (1 : Int32))))), (0, .ref h0), (1, .int b1)] dX8_timeOf_25 rfl (Nat.le_of_ble_eq_true rfl) rfl ?_
    refine g_iload_n 26 X dX8_timeOf_26 2 rfl rfl ?_
    refine g_iconst 27 X (1 : Int32) dX8_timeOf_27 k_ic_1 ?_
    refine g_icmp_le 28 X 45 dX8_timeOf_28 (by decide) (fun c => ?_) (fun c => ?_)
    · replace h := h.1 c
      refine g_iload_n 45 X dX8_timeOf_45 2 rfl rfl ?_
      refine g_iconst 46 X (1 : Int32) dX8_timeOf_46 k_ic_1 ?_
      refine g_icmp_ne 47 X 60 dX8_timeOf_47 (by decide) (fun c => ?_) (fun c => ?_)
      · replace h := h.1 c
        refine g_aload_n 60 X dX8_timeOf_60 1 rfl rfl ?_
        refine g_get 61 X fa_X8_13 dX8_timeOf_61 0 rfl rfl ?_
        refine g_bipush 64 X (23 : Int32) dX8_timeOf_64 k_bp_23 ?_
        refine g_iald 66 X dX8_timeOf_66 1 rfl rfl (vp_lit (by decide)) ?_
        refine g_istore_n 67 X [(3, .int (v_now (Int32.toNatClampNeg (23 : Int32)))), (2, .int (v_now (Int32.toNatClampNeg (((13 : Int32) + b1) - (1 : Int32))))), (0, .ref h0), (1, .int b1)] dX8_timeOf_67 rfl (Nat.le_of_ble_eq_true rfl) rfl ?_
        refine g_aload_n 68 X dX8_timeOf_68 2 rfl rfl ?_
        refine g_aload_n 69 X dX8_timeOf_69 2 rfl rfl ?_
        refine g_get 70 X fa_X8_13 dX8_timeOf_70 0 rfl rfl ?_
        refine g_aload_n 73 X dX8_timeOf_73 2 rfl rfl ?_
        refine g_get 74 X fa_X8_13 dX8_timeOf_74 0 rfl rfl ?_
        refine g_bipush 77 X (13 : Int32) dX8_timeOf_77 k_bp_13 ?_
        refine g_iload_n 79 X dX8_timeOf_79 3 rfl rfl ?_
        refine g_iadd 80 X dX8_timeOf_80 ?_
        have f12 := h.1; replace h := h.2
        refine g_iald 81 X dX8_timeOf_81 1 rfl rfl f12 ?_
        refine g_iload_n 82 X dX8_timeOf_82 1 rfl rfl ?_
        refine g_iload_n 83 X dX8_timeOf_83 0 rfl rfl ?_
        refine g_cVV 84 X (st := []) mv_X8_137 dX8_timeOf_84 h0 8 [.ref h1, .int (v_now (Int32.toNatClampNeg ((13 : Int32) + b1))), .int (v_now (Int32.toNatClampNeg (((13 : Int32) + b1) - (1 : Int32)))), .int (v_now (Int32.toNatClampNeg (23 : Int32)))] (c_X8_layPulses h0 h2 h1 o0 o1 o2 (.int v_z_power) o3 o4 o5 (.ref h1) o6 o7 o8 o9 o10 o11 o12 o13 o14 o15 o16 o17 o18 o19 o20 o21 o22 o23 o24 o25 o26 o27 o28 o29 v_z_dots v_pulses v_now (v_now (Int32.toNatClampNeg ((13 : Int32) + b1))) (v_now (Int32.toNatClampNeg (((13 : Int32) + b1) - (1 : Int32)))) (v_now (Int32.toNatClampNeg (23 : Int32))) h) [0, 2, 1] (fun u : (Nat → Int32) => (W_X8_timeOf (g_env Γ) h0 h1 h2 o0 o1 o2 o3 o4 o5 o6 o7 o8 o9 o10 o11 o12 o13 o14 o15 o16 o17 o18 o19 o20 o21 o22 o23 o24 o25 o26 o27 o28 o29 v_z_dots v_z_power v_now u)) rfl ⟨(Nat.le_of_ble_eq_true rfl), (Nat.le_of_ble_eq_true rfl)⟩ ⟨rfl, rfl⟩ (Nat.le_of_ble_eq_true rfl) rfl rfl rfl (by decide) (fun _ => rfl) (fun _ => rfl) (fun u h => ?_)
        obtain ⟨v_pulses_13, rfl⟩ : ∃ z, z = u := ⟨_, rfl⟩
        refine g_aload_n 87 X dX8_timeOf_87 2 rfl rfl ?_
        refine g_cVI 88 X (st := []) mv_X8_155 dX8_timeOf_88 h0 8 [] (c_X8_timeNow h0 h2 o0 o1 o2 o3 o4 o5 (.ref h1) o6 o7 o8 o9 o10 o11 o12 o13 o14 o15 o16 o17 o18 o19 o20 o21 o22 o23 o24 o25 o26 o27 o28 o29 v_z_dots v_z_power v_pulses_13 h) [0, 2] (fun u : Unit => (W_X8_timeOf (g_env Γ) h0 h1 h2 o0 o1 o2 o3 o4 o5 o6 o7 o8 o9 o10 o11 o12 o13 o14 o15 o16 o17 o18 o19 o20 o21 o22 o23 o24 o25 o26 o27 o28 o29 v_z_dots v_z_power v_now v_pulses_13)) rfl ⟨(Nat.le_of_ble_eq_true rfl), (Nat.le_of_ble_eq_true rfl)⟩ ⟨rfl, rfl⟩ (Nat.le_of_ble_eq_true rfl) rfl rfl rfl (by decide) (fun _ => rfl) (fun _ => rfl) (fun r14 u h => ?_)
        exact ret 91 _ _ (v_pulses_13) dX8_timeOf_91 (vp_nar_int _) h
      · replace h := h.2 c
        refine g_aload_n 50 X dX8_timeOf_50 1 rfl rfl ?_
        refine g_get 51 X fa_X8_13 dX8_timeOf_51 0 rfl rfl ?_
        refine g_bipush 54 X (22 : Int32) dX8_timeOf_54 k_bp_22 ?_
        refine g_iald 56 X dX8_timeOf_56 1 rfl rfl (vp_lit (by decide)) ?_
        refine g_goto 57 X 67 dX8_timeOf_57 (by decide) ?_
        refine g_istore_n 67 X [(3, .int (v_now (Int32.toNatClampNeg (22 : Int32)))), (2, .int (v_now (Int32.toNatClampNeg (((13 : Int32) + b1) - (1 : Int32))))), (0, .ref h0), (1, .int b1)] dX8_timeOf_67 rfl (Nat.le_of_ble_eq_true rfl) rfl ?_
        refine g_aload_n 68 X dX8_timeOf_68 2 rfl rfl ?_
        refine g_aload_n 69 X dX8_timeOf_69 2 rfl rfl ?_
        refine g_get 70 X fa_X8_13 dX8_timeOf_70 0 rfl rfl ?_
        refine g_aload_n 73 X dX8_timeOf_73 2 rfl rfl ?_
        refine g_get 74 X fa_X8_13 dX8_timeOf_74 0 rfl rfl ?_
        refine g_bipush 77 X (13 : Int32) dX8_timeOf_77 k_bp_13 ?_
        refine g_iload_n 79 X dX8_timeOf_79 3 rfl rfl ?_
        refine g_iadd 80 X dX8_timeOf_80 ?_
        have f15 := h.1; replace h := h.2
        refine g_iald 81 X dX8_timeOf_81 1 rfl rfl f15 ?_
        refine g_iload_n 82 X dX8_timeOf_82 1 rfl rfl ?_
        refine g_iload_n 83 X dX8_timeOf_83 0 rfl rfl ?_
        refine g_cVV 84 X (st := []) mv_X8_137 dX8_timeOf_84 h0 8 [.ref h1, .int (v_now (Int32.toNatClampNeg ((13 : Int32) + b1))), .int (v_now (Int32.toNatClampNeg (((13 : Int32) + b1) - (1 : Int32)))), .int (v_now (Int32.toNatClampNeg (22 : Int32)))] (c_X8_layPulses h0 h2 h1 o0 o1 o2 (.int v_z_power) o3 o4 o5 (.ref h1) o6 o7 o8 o9 o10 o11 o12 o13 o14 o15 o16 o17 o18 o19 o20 o21 o22 o23 o24 o25 o26 o27 o28 o29 v_z_dots v_pulses v_now (v_now (Int32.toNatClampNeg ((13 : Int32) + b1))) (v_now (Int32.toNatClampNeg (((13 : Int32) + b1) - (1 : Int32)))) (v_now (Int32.toNatClampNeg (22 : Int32))) h) [0, 2, 1] (fun u : (Nat → Int32) => (W_X8_timeOf (g_env Γ) h0 h1 h2 o0 o1 o2 o3 o4 o5 o6 o7 o8 o9 o10 o11 o12 o13 o14 o15 o16 o17 o18 o19 o20 o21 o22 o23 o24 o25 o26 o27 o28 o29 v_z_dots v_z_power v_now u)) rfl ⟨(Nat.le_of_ble_eq_true rfl), (Nat.le_of_ble_eq_true rfl)⟩ ⟨rfl, rfl⟩ (Nat.le_of_ble_eq_true rfl) rfl rfl rfl (by decide) (fun _ => rfl) (fun _ => rfl) (fun u h => ?_)
        obtain ⟨v_pulses_16, rfl⟩ : ∃ z, z = u := ⟨_, rfl⟩
        refine g_aload_n 87 X dX8_timeOf_87 2 rfl rfl ?_
        refine g_cVI 88 X (st := []) mv_X8_155 dX8_timeOf_88 h0 8 [] (c_X8_timeNow h0 h2 o0 o1 o2 o3 o4 o5 (.ref h1) o6 o7 o8 o9 o10 o11 o12 o13 o14 o15 o16 o17 o18 o19 o20 o21 o22 o23 o24 o25 o26 o27 o28 o29 v_z_dots v_z_power v_pulses_16 h) [0, 2] (fun u : Unit => (W_X8_timeOf (g_env Γ) h0 h1 h2 o0 o1 o2 o3 o4 o5 o6 o7 o8 o9 o10 o11 o12 o13 o14 o15 o16 o17 o18 o19 o20 o21 o22 o23 o24 o25 o26 o27 o28 o29 v_z_dots v_z_power v_now v_pulses_16)) rfl ⟨(Nat.le_of_ble_eq_true rfl), (Nat.le_of_ble_eq_true rfl)⟩ ⟨rfl, rfl⟩ (Nat.le_of_ble_eq_true rfl) rfl rfl rfl (by decide) (fun _ => rfl) (fun _ => rfl) (fun r17 u h => ?_)
        exact ret 91 _ _ (v_pulses_16) dX8_timeOf_91 (vp_nar_int _) h
    · replace h := h.2 c
      refine g_aload_n 31 X dX8_timeOf_31 1 rfl rfl ?_
      refine g_get 32 X fa_X8_13 dX8_timeOf_32 0 rfl rfl ?_
      refine g_bipush 35 X (13 : Int32) dX8_timeOf_35 k_bp_13 ?_
      refine g_iload_n 37 X dX8_timeOf_37 2 rfl rfl ?_
      refine g_iadd 38 X dX8_timeOf_38 ?_
      refine g_iconst 39 X (2 : Int32) dX8_timeOf_39 k_ic_2 ?_
      refine g_isub 40 X dX8_timeOf_40 ?_
      have f18 := h.1; replace h := h.2
      refine g_iald 41 X dX8_timeOf_41 1 rfl rfl f18 ?_
      refine g_goto 42 X 67 dX8_timeOf_42 (by decide) ?_
      refine g_istore_n 67 X [(3, .int (v_now (Int32.toNatClampNeg (((13 : Int32) + b1) - (2 : Int32))))), (2, .int (v_now (Int32.toNatClampNeg (((13 : Int32) + b1) - (1 : Int32))))), (0, .ref h0), (1, .int b1)] dX8_timeOf_67 rfl (Nat.le_of_ble_eq_true rfl) rfl ?_
      refine g_aload_n 68 X dX8_timeOf_68 2 rfl rfl ?_
      refine g_aload_n 69 X dX8_timeOf_69 2 rfl rfl ?_
      refine g_get 70 X fa_X8_13 dX8_timeOf_70 0 rfl rfl ?_
      refine g_aload_n 73 X dX8_timeOf_73 2 rfl rfl ?_
      refine g_get 74 X fa_X8_13 dX8_timeOf_74 0 rfl rfl ?_
      refine g_bipush 77 X (13 : Int32) dX8_timeOf_77 k_bp_13 ?_
      refine g_iload_n 79 X dX8_timeOf_79 3 rfl rfl ?_
      refine g_iadd 80 X dX8_timeOf_80 ?_
      have f19 := h.1; replace h := h.2
      refine g_iald 81 X dX8_timeOf_81 1 rfl rfl f19 ?_
      refine g_iload_n 82 X dX8_timeOf_82 1 rfl rfl ?_
      refine g_iload_n 83 X dX8_timeOf_83 0 rfl rfl ?_
      refine g_cVV 84 X (st := []) mv_X8_137 dX8_timeOf_84 h0 8 [.ref h1, .int (v_now (Int32.toNatClampNeg ((13 : Int32) + b1))), .int (v_now (Int32.toNatClampNeg (((13 : Int32) + b1) - (1 : Int32)))), .int (v_now (Int32.toNatClampNeg (((13 : Int32) + b1) - (2 : Int32))))] (c_X8_layPulses h0 h2 h1 o0 o1 o2 (.int v_z_power) o3 o4 o5 (.ref h1) o6 o7 o8 o9 o10 o11 o12 o13 o14 o15 o16 o17 o18 o19 o20 o21 o22 o23 o24 o25 o26 o27 o28 o29 v_z_dots v_pulses v_now (v_now (Int32.toNatClampNeg ((13 : Int32) + b1))) (v_now (Int32.toNatClampNeg (((13 : Int32) + b1) - (1 : Int32)))) (v_now (Int32.toNatClampNeg (((13 : Int32) + b1) - (2 : Int32)))) h) [0, 2, 1] (fun u : (Nat → Int32) => (W_X8_timeOf (g_env Γ) h0 h1 h2 o0 o1 o2 o3 o4 o5 o6 o7 o8 o9 o10 o11 o12 o13 o14 o15 o16 o17 o18 o19 o20 o21 o22 o23 o24 o25 o26 o27 o28 o29 v_z_dots v_z_power v_now u)) rfl ⟨(Nat.le_of_ble_eq_true rfl), (Nat.le_of_ble_eq_true rfl)⟩ ⟨rfl, rfl⟩ (Nat.le_of_ble_eq_true rfl) rfl rfl rfl (by decide) (fun _ => rfl) (fun _ => rfl) (fun u h => ?_)
      obtain ⟨v_pulses_20, rfl⟩ : ∃ z, z = u := ⟨_, rfl⟩
      refine g_aload_n 87 X dX8_timeOf_87 2 rfl rfl ?_
      refine g_cVI 88 X (st := []) mv_X8_155 dX8_timeOf_88 h0 8 [] (c_X8_timeNow h0 h2 o0 o1 o2 o3 o4 o5 (.ref h1) o6 o7 o8 o9 o10 o11 o12 o13 o14 o15 o16 o17 o18 o19 o20 o21 o22 o23 o24 o25 o26 o27 o28 o29 v_z_dots v_z_power v_pulses_20 h) [0, 2] (fun u : Unit => (W_X8_timeOf (g_env Γ) h0 h1 h2 o0 o1 o2 o3 o4 o5 o6 o7 o8 o9 o10 o11 o12 o13 o14 o15 o16 o17 o18 o19 o20 o21 o22 o23 o24 o25 o26 o27 o28 o29 v_z_dots v_z_power v_now v_pulses_20)) rfl ⟨(Nat.le_of_ble_eq_true rfl), (Nat.le_of_ble_eq_true rfl)⟩ ⟨rfl, rfl⟩ (Nat.le_of_ble_eq_true rfl) rfl rfl rfl (by decide) (fun _ => rfl) (fun _ => rfl) (fun r21 u h => ?_)
      exact ret 91 _ _ (v_pulses_20) dX8_timeOf_91 (vp_nar_int _) h

def W_X8_mostOf (E : g_E) (h0 : Nat) (h1 : Nat) (h2 : Nat) (o0 o1 o2 o3 o4 o5 o6 o7 o8 o9 o10 o11 o12 o13 o14 o15 o16 o17 o18 o19 o20 o21 o22 o23 o24 o25 o26 o27 o28 o29 : Value) (v_z_dots : Int32) (v_z_power : Int32) (v_now : Nat → Int32) (v_pulses : Nat → Int32) : va_W := [(h0, .inr (8, [o0, o1, .int v_z_dots, o2, .int v_z_power, o3, o4, o5, .ref h1, o6, o7, o8, o9, o10, o11, o12, o13, o14, o15, o16, o17, .ref h2, o18, o19, o20, o21, o22, o23, o24, o25, o26, o27, o28, o29])), (h1, .inl (E.2.1, 30, .inl v_now)), (h2, .inl (E.2.1, 8, .inl v_pulses))]
def P_X8_mostOf (b1 : Int32) (v_z_dots : Int32) (v_z_power : Int32) (v_now : Nat → Int32) (v_pulses : Nat → Int32) (K : Int32 → (Nat → Int32) → Prop) : Prop := (P_X8_timeOf b1 v_z_dots v_z_power v_now v_pulses (fun r1 v_pulses_2 => ((((9 : Int32) - (r1 / (9 : Int32))) ≤ (1 : Int32) → K (1 : Int32) v_pulses_2) ∧ (¬ ((9 : Int32) - (r1 / (9 : Int32))) ≤ (1 : Int32) → K ((9 : Int32) - (r1 / (9 : Int32))) v_pulses_2))))
set_option maxHeartbeats 4000000 in
set_option maxRecDepth 100000 in
theorem c_X8_mostOf {l : Launch} {E : g_E} (h0 : Nat) (h1 : Nat) (h2 : Nat) (o0 o1 o2 o3 o4 o5 o6 o7 o8 o9 o10 o11 o12 o13 o14 o15 o16 o17 o18 o19 o20 o21 o22 o23 o24 o25 o26 o27 o28 o29 : Value) (v_z_dots : Int32) (v_z_power : Int32) (v_now : Nat → Int32) (v_pulses : Nat → Int32) (b1 : Int32) {K : Int32 → (Nat → Int32) → Prop} (h : P_X8_mostOf b1 v_z_dots v_z_power v_now v_pulses K) : g_CI l E yX8_mostOf cX8_mostOf 3 .int (g_Rm 3 70) [.ref h0, .int b1] (W_X8_mostOf E h0 h1 h2 o0 o1 o2 o3 o4 o5 o6 o7 o8 o9 o10 o11 o12 o13 o14 o15 o16 o17 o18 o19 o20 o21 o22 o23 o24 o25 o26 o27 o28 o29 v_z_dots v_z_power v_now v_pulses) (fun r (u : (Nat → Int32)) => K r u) (fun (u : (Nat → Int32)) => (W_X8_mostOf E h0 h1 h2 o0 o1 o2 o3 o4 o5 o6 o7 o8 o9 o10 o11 o12 o13 o14 o15 o16 o17 o18 o19 o20 o21 o22 o23 o24 o25 o26 o27 o28 o29 v_z_dots v_z_power v_now u)) := by
  refine g_entI RX8 (by decide) rfl (Nat.le_of_ble_eq_true rfl) ?_
  intro Γ X hE hl ret
  subst hE
  subst hl
  unfold P_X8_mostOf at h
  show g_G Γ (g_Rm 3 70) 3 0 [(0, .ref h0), (1, .int b1)] [] (W_X8_mostOf (g_env Γ) h0 h1 h2 o0 o1 o2 o3 o4 o5 o6 o7 o8 o9 o10 o11 o12 o13 o14 o15 o16 o17 o18 o19 o20 o21 o22 o23 o24 o25 o26 o27 o28 o29 v_z_dots v_z_power v_now v_pulses)
  refine g_bipush 0 X (9 : Int32) dX8_mostOf_0 k_bp_9 ?_
  refine g_aload_n 2 X dX8_mostOf_2 0 rfl rfl ?_
  refine g_iload_n 3 X dX8_mostOf_3 1 rfl rfl ?_
  refine g_cVI 4 X (st := [.int (9 : Int32)]) mv_X8_158 dX8_mostOf_4 h0 8 [.int b1] (c_X8_timeOf h0 h1 h2 o0 o1 o2 o3 o4 o5 o6 o7 o8 o9 o10 o11 o12 o13 o14 o15 o16 o17 o18 o19 o20 o21 o22 o23 o24 o25 o26 o27 o28 o29 v_z_dots v_z_power v_now v_pulses b1 h) [0, 1, 2] (fun u : (Nat → Int32) => (W_X8_mostOf (g_env Γ) h0 h1 h2 o0 o1 o2 o3 o4 o5 o6 o7 o8 o9 o10 o11 o12 o13 o14 o15 o16 o17 o18 o19 o20 o21 o22 o23 o24 o25 o26 o27 o28 o29 v_z_dots v_z_power v_now u)) rfl ⟨(Nat.le_of_ble_eq_true rfl), (Nat.le_of_ble_eq_true rfl)⟩ ⟨rfl, rfl⟩ (Nat.le_of_ble_eq_true rfl) rfl rfl rfl (by decide) (fun _ => rfl) (fun _ => rfl) (fun r1 u h => ?_)
  obtain ⟨v_pulses_2, rfl⟩ : ∃ z, z = u := ⟨_, rfl⟩
  refine g_bipush 7 X (9 : Int32) dX8_mostOf_7 k_bp_9 ?_
  refine g_idiv 9 X dX8_mostOf_9 (by decide) ?_
  refine g_isub 10 X dX8_mostOf_10 ?_
  refine g_istore_n 11 X [(2, .int ((9 : Int32) - (r1 / (9 : Int32)))), (0, .ref h0), (1, .int b1)] dX8_mostOf_11 rfl (Nat.le_of_ble_eq_true rfl) rfl ?_
  refine g_iload_n 12 X dX8_mostOf_12 0 rfl rfl ?_
  refine g_iconst 13 X (1 : Int32) dX8_mostOf_13 k_ic_1 ?_
  refine g_icmp_le 14 X 21 dX8_mostOf_14 (by decide) (fun c => ?_) (fun c => ?_)
  · replace h := h.1 c
    refine g_iconst 21 X (1 : Int32) dX8_mostOf_21 k_ic_1 ?_
    exact ret 22 _ _ (v_pulses_2) dX8_mostOf_22 (vp_nar_int _) h
  · replace h := h.2 c
    refine g_iload_n 17 X dX8_mostOf_17 0 rfl rfl ?_
    refine g_goto 18 X 22 dX8_mostOf_18 (by decide) ?_
    exact ret 22 _ _ (v_pulses_2) dX8_mostOf_22 (vp_nar_int _) h

def W_X8_laySpeeds (E : g_E) (h0 : Nat) (h1 : Nat) (h2 : Nat) (h3 : Nat) (h4 : Nat) (o0 o1 o2 o3 o4 o5 o6 o7 o8 o9 o10 o11 o12 o13 o14 o15 o16 o17 o18 o19 o20 o21 o22 o23 o24 o25 o26 o27 : Value) (v_z_dots : Int32) (v_z_power : Int32) (v_now : Nat → Int32) (v_pulses : Nat → Int32) (v_most : Nat → Int32) (v_speed : Nat → Int32) : va_W := [(h0, .inr (8, [o0, o1, .int v_z_dots, o2, .int v_z_power, o3, o4, o5, .ref h1, o6, o7, o8, o9, o10, o11, o12, o13, o14, o15, o16, o17, .ref h2, .ref h3, .ref h4, o18, o19, o20, o21, o22, o23, o24, o25, o26, o27])), (h1, .inl (E.2.1, 30, .inl v_now)), (h2, .inl (E.2.1, 8, .inl v_pulses)), (h3, .inl (E.2.1, 8, .inl v_most)), (h4, .inl (E.2.1, 8, .inl v_speed))]
def P_X8_laySpeeds_L10 (v_z_dots : Int32) (v_z_power : Int32) (v_now : Nat → Int32) (x1 : Int32) (C77 : (Nat → Int32) → (Nat → Int32) → (Nat → Int32) → Prop) : Nat → Int32 → (Nat → Int32) → (Nat → Int32) → (Nat → Int32) → Prop
  | 0, _, _, _, _ => False
  | n + 1, x2, v_pulses, v_most, v_speed => ((x1 ≤ x2 → C77 v_pulses v_most v_speed) ∧ (¬ x1 ≤ x2 → (P_X8_mostOf x2 v_z_dots v_z_power v_now v_pulses (fun r1 v_pulses_2 => (vp_in x2 8 ∧ ((¬ x2 = (0 : Int32) → (vp_in (x2 - (1 : Int32)) 8 ∧ ((((v_speed (Int32.toNatClampNeg (x2 - (1 : Int32)))) + (1 : Int32)) ≤ ((upd v_most (Int32.toNatClampNeg x2) r1) (Int32.toNatClampNeg x2)) → P_X8_laySpeeds_L10 v_z_dots v_z_power v_now x1 C77 n (x2 + (1 : Int32)) v_pulses_2 (upd v_most (Int32.toNatClampNeg x2) r1) (upd v_speed (Int32.toNatClampNeg x2) ((v_speed (Int32.toNatClampNeg (x2 - (1 : Int32)))) + (1 : Int32)))) ∧ (¬ ((v_speed (Int32.toNatClampNeg (x2 - (1 : Int32)))) + (1 : Int32)) ≤ ((upd v_most (Int32.toNatClampNeg x2) r1) (Int32.toNatClampNeg x2)) → P_X8_laySpeeds_L10 v_z_dots v_z_power v_now x1 C77 n (x2 + (1 : Int32)) v_pulses_2 (upd v_most (Int32.toNatClampNeg x2) r1) (upd v_speed (Int32.toNatClampNeg x2) ((upd v_most (Int32.toNatClampNeg x2) r1) (Int32.toNatClampNeg x2))))))) ∧ (x2 = (0 : Int32) → (((1 : Int32) ≤ ((upd v_most (Int32.toNatClampNeg x2) r1) (Int32.toNatClampNeg x2)) → P_X8_laySpeeds_L10 v_z_dots v_z_power v_now x1 C77 n (x2 + (1 : Int32)) v_pulses_2 (upd v_most (Int32.toNatClampNeg x2) r1) (upd v_speed (Int32.toNatClampNeg x2) (1 : Int32))) ∧ (¬ (1 : Int32) ≤ ((upd v_most (Int32.toNatClampNeg x2) r1) (Int32.toNatClampNeg x2)) → P_X8_laySpeeds_L10 v_z_dots v_z_power v_now x1 C77 n (x2 + (1 : Int32)) v_pulses_2 (upd v_most (Int32.toNatClampNeg x2) r1) (upd v_speed (Int32.toNatClampNeg x2) ((upd v_most (Int32.toNatClampNeg x2) r1) (Int32.toNatClampNeg x2))))))))))))
def P_X8_laySpeeds_L81 (x1 : Int32) (C139 : (Nat → Int32) → Prop) : Nat → Int32 → (Nat → Int32) → Prop
  | 0, _, _ => False
  | n + 1, x2, v_speed => ((x2 < (0 : Int32) → C139 v_speed) ∧ (¬ x2 < (0 : Int32) → ((¬ x2 = (x1 - (1 : Int32)) → (vp_in (x2 + (1 : Int32)) 8 ∧ (vp_in x2 8 ∧ ((((v_speed (Int32.toNatClampNeg (x2 + (1 : Int32)))) + (1 : Int32)) ≤ (v_speed (Int32.toNatClampNeg x2)) → P_X8_laySpeeds_L81 x1 C139 n (x2 + (-1 : Int32)) (upd v_speed (Int32.toNatClampNeg x2) ((v_speed (Int32.toNatClampNeg (x2 + (1 : Int32)))) + (1 : Int32)))) ∧ (¬ ((v_speed (Int32.toNatClampNeg (x2 + (1 : Int32)))) + (1 : Int32)) ≤ (v_speed (Int32.toNatClampNeg x2)) → P_X8_laySpeeds_L81 x1 C139 n (x2 + (-1 : Int32)) (upd v_speed (Int32.toNatClampNeg x2) (v_speed (Int32.toNatClampNeg x2)))))))) ∧ (x2 = (x1 - (1 : Int32)) → (vp_in x2 8 ∧ (((1 : Int32) ≤ (v_speed (Int32.toNatClampNeg x2)) → P_X8_laySpeeds_L81 x1 C139 n (x2 + (-1 : Int32)) (upd v_speed (Int32.toNatClampNeg x2) (1 : Int32))) ∧ (¬ (1 : Int32) ≤ (v_speed (Int32.toNatClampNeg x2)) → P_X8_laySpeeds_L81 x1 C139 n (x2 + (-1 : Int32)) (upd v_speed (Int32.toNatClampNeg x2) (v_speed (Int32.toNatClampNeg x2))))))))))
def P_X8_laySpeeds (v_z_dots : Int32) (v_z_power : Int32) (v_now : Nat → Int32) (v_pulses : Nat → Int32) (v_most : Nat → Int32) (v_speed : Nat → Int32) (K : (Nat → Int32) → (Nat → Int32) → (Nat → Int32) → Prop) : Prop := (∃ ne : Nat, P_X8_laySpeeds_L10 v_z_dots v_z_power v_now (v_now (Int32.toNatClampNeg (21 : Int32))) (fun v_pulses_9 v_most_10 v_speed_11 => (∃ ne : Nat, P_X8_laySpeeds_L81 (v_now (Int32.toNatClampNeg (21 : Int32))) (fun v_speed_18 => K v_pulses_9 v_most_10 v_speed_18) ne ((v_now (Int32.toNatClampNeg (21 : Int32))) - (1 : Int32)) v_speed_11)) ne (0 : Int32) v_pulses v_most v_speed)
set_option maxHeartbeats 4000000 in
set_option maxRecDepth 100000 in
theorem l_X8_laySpeeds_10 {Γ : g_C} (X : g_X Γ (g_Rm 4 92) cX8_laySpeeds RX8 4) (h0 : Nat) (h1 : Nat) (h2 : Nat) (h3 : Nat) (h4 : Nat) (o0 o1 o2 o3 o4 o5 o6 o7 o8 o9 o10 o11 o12 o13 o14 o15 o16 o17 o18 o19 o20 o21 o22 o23 o24 o25 o26 o27 : Value) (v_z_dots : Int32) (v_z_power : Int32) (v_now : Nat → Int32) (x1 : Int32) {C77 : (Nat → Int32) → (Nat → Int32) → (Nat → Int32) → Prop} (hC77 : ∀ (v_pulses : Nat → Int32) (v_most : Nat → Int32) (v_speed : Nat → Int32), C77 v_pulses v_most v_speed → g_G Γ (g_Rm 4 92) 4 77 [(0, .ref h0), (1, .int x1)] [] (W_X8_laySpeeds (g_env Γ) h0 h1 h2 h3 h4 o0 o1 o2 o3 o4 o5 o6 o7 o8 o9 o10 o11 o12 o13 o14 o15 o16 o17 o18 o19 o20 o21 o22 o23 o24 o25 o26 o27 v_z_dots v_z_power v_now v_pulses v_most v_speed)) : ∀ (n : Nat) (x2 : Int32) (v_pulses : Nat → Int32) (v_most : Nat → Int32) (v_speed : Nat → Int32), P_X8_laySpeeds_L10 v_z_dots v_z_power v_now x1 C77 n x2 v_pulses v_most v_speed → g_G Γ (g_Rm 4 92) 4 10 [(0, .ref h0), (1, .int x1), (2, .int x2)] [] (W_X8_laySpeeds (g_env Γ) h0 h1 h2 h3 h4 o0 o1 o2 o3 o4 o5 o6 o7 o8 o9 o10 o11 o12 o13 o14 o15 o16 o17 o18 o19 o20 o21 o22 o23 o24 o25 o26 o27 v_z_dots v_z_power v_now v_pulses v_most v_speed) := by
  intro n
  induction n with
  | zero => intro x2 v_pulses v_most v_speed h; exact False.elim h
  | succ n ih =>
    intro x2 v_pulses v_most v_speed h
    unfold P_X8_laySpeeds_L10 at h
    refine g_iload_n 10 X dX8_laySpeeds_10 2 rfl rfl ?_
    refine g_iload_n 11 X dX8_laySpeeds_11 1 rfl rfl ?_
    refine g_icmp_ge 12 X 77 dX8_laySpeeds_12 (by decide) (fun c => ?_) (fun c => ?_)
    · replace h := h.1 c
      refine g_sub [(0, .ref h0), (1, .int x1)] [0, 1] rfl ?_
      exact hC77 v_pulses v_most v_speed h
    · replace h := h.2 c
      refine g_aload_n 15 X dX8_laySpeeds_15 0 rfl rfl ?_
      refine g_get 16 X fa_X8_41 dX8_laySpeeds_16 0 rfl rfl ?_
      refine g_iload_n 19 X dX8_laySpeeds_19 2 rfl rfl ?_
      refine g_aload_n 20 X dX8_laySpeeds_20 0 rfl rfl ?_
      refine g_iload_n 21 X dX8_laySpeeds_21 2 rfl rfl ?_
      refine g_cVI 22 X (st := [.int x2, .ref h3]) mv_X8_162 dX8_laySpeeds_22 h0 8 [.int x2] (c_X8_mostOf h0 h1 h2 o0 o1 o2 o3 o4 o5 o6 o7 o8 o9 o10 o11 o12 o13 o14 o15 o16 o17 (.ref h3) (.ref h4) o18 o19 o20 o21 o22 o23 o24 o25 o26 o27 v_z_dots v_z_power v_now v_pulses x2 h) [0, 1, 2] (fun u : (Nat → Int32) => (W_X8_laySpeeds (g_env Γ) h0 h1 h2 h3 h4 o0 o1 o2 o3 o4 o5 o6 o7 o8 o9 o10 o11 o12 o13 o14 o15 o16 o17 o18 o19 o20 o21 o22 o23 o24 o25 o26 o27 v_z_dots v_z_power v_now u v_most v_speed)) rfl ⟨(Nat.le_of_ble_eq_true rfl), (Nat.le_of_ble_eq_true rfl)⟩ ⟨rfl, rfl⟩ (Nat.le_of_ble_eq_true rfl) rfl rfl rfl (by decide) (fun _ => rfl) (fun _ => rfl) (fun r5 u h => ?_)
      obtain ⟨v_pulses_6, rfl⟩ : ∃ z, z = u := ⟨_, rfl⟩
      have f7 := h.1; replace h := h.2
      refine g_iast 25 X (W_X8_laySpeeds (g_env Γ) h0 h1 h2 h3 h4 o0 o1 o2 o3 o4 o5 o6 o7 o8 o9 o10 o11 o12 o13 o14 o15 o16 o17 o18 o19 o20 o21 o22 o23 o24 o25 o26 o27 v_z_dots v_z_power v_now v_pulses_6 (upd v_most (Int32.toNatClampNeg x2) r5) v_speed) dX8_laySpeeds_25 3 rfl rfl f7 rfl ?_
      refine g_iload_n 26 X dX8_laySpeeds_26 2 rfl rfl ?_
      refine g_if_ne 27 X 34 dX8_laySpeeds_27 (by decide) (fun c => ?_) (fun c => ?_)
      · replace h := h.1 c
        refine g_aload_n 34 X dX8_laySpeeds_34 0 rfl rfl ?_
        refine g_get 35 X fa_X8_44 dX8_laySpeeds_35 0 rfl rfl ?_
        refine g_iload_n 38 X dX8_laySpeeds_38 2 rfl rfl ?_
        refine g_iconst 39 X (1 : Int32) dX8_laySpeeds_39 k_ic_1 ?_
        refine g_isub 40 X dX8_laySpeeds_40 ?_
        have f8 := h.1; replace h := h.2
        refine g_iald 41 X dX8_laySpeeds_41 4 rfl rfl f8 ?_
        refine g_iconst 42 X (1 : Int32) dX8_laySpeeds_42 k_ic_1 ?_
        refine g_iadd 43 X dX8_laySpeeds_43 ?_
        refine g_istore_n 44 X [(3, .int ((v_speed (Int32.toNatClampNeg (x2 - (1 : Int32)))) + (1 : Int32))), (0, .ref h0), (1, .int x1), (2, .int x2)] dX8_laySpeeds_44 rfl (Nat.le_of_ble_eq_true rfl) rfl ?_
        refine g_aload_n 45 X dX8_laySpeeds_45 1 rfl rfl ?_
        refine g_get 46 X fa_X8_44 dX8_laySpeeds_46 0 rfl rfl ?_
        refine g_iload_n 49 X dX8_laySpeeds_49 3 rfl rfl ?_
        refine g_aload_n 50 X dX8_laySpeeds_50 1 rfl rfl ?_
        refine g_get 51 X fa_X8_41 dX8_laySpeeds_51 0 rfl rfl ?_
        refine g_iload_n 54 X dX8_laySpeeds_54 3 rfl rfl ?_
        refine g_iald 55 X dX8_laySpeeds_55 3 rfl rfl f7 ?_
        refine g_iload_n 56 X dX8_laySpeeds_56 0 rfl rfl ?_
        refine g_icmp_ge 57 X 69 dX8_laySpeeds_57 (by decide) (fun c => ?_) (fun c => ?_)
        · replace h := h.1 c
          refine g_iload_n 69 X dX8_laySpeeds_69 0 rfl rfl ?_
          refine g_iast 70 X (W_X8_laySpeeds (g_env Γ) h0 h1 h2 h3 h4 o0 o1 o2 o3 o4 o5 o6 o7 o8 o9 o10 o11 o12 o13 o14 o15 o16 o17 o18 o19 o20 o21 o22 o23 o24 o25 o26 o27 v_z_dots v_z_power v_now v_pulses_6 (upd v_most (Int32.toNatClampNeg x2) r5) (upd v_speed (Int32.toNatClampNeg x2) ((v_speed (Int32.toNatClampNeg (x2 - (1 : Int32)))) + (1 : Int32)))) dX8_laySpeeds_70 4 rfl rfl f7 rfl ?_
          refine g_iinc 71 X (x2 + (1 : Int32)) [(2, .int (x2 + (1 : Int32))), (3, .int ((v_speed (Int32.toNatClampNeg (x2 - (1 : Int32)))) + (1 : Int32))), (0, .ref h0), (1, .int x1)] dX8_laySpeeds_71 3 rfl (k_ii_1 _) (Nat.le_of_ble_eq_true rfl) rfl ?_
          refine g_goto 74 X 10 dX8_laySpeeds_74 (by decide) ?_
          refine g_sub [(0, .ref h0), (1, .int x1), (2, .int (x2 + (1 : Int32)))] [2, 3, 0] rfl ?_
          exact ih (x2 + (1 : Int32)) v_pulses_6 (upd v_most (Int32.toNatClampNeg x2) r5) (upd v_speed (Int32.toNatClampNeg x2) ((v_speed (Int32.toNatClampNeg (x2 - (1 : Int32)))) + (1 : Int32))) h
        · replace h := h.2 c
          refine g_aload_n 60 X dX8_laySpeeds_60 1 rfl rfl ?_
          refine g_get 61 X fa_X8_41 dX8_laySpeeds_61 0 rfl rfl ?_
          refine g_iload_n 64 X dX8_laySpeeds_64 3 rfl rfl ?_
          refine g_iald 65 X dX8_laySpeeds_65 3 rfl rfl f7 ?_
          refine g_goto 66 X 70 dX8_laySpeeds_66 (by decide) ?_
          refine g_iast 70 X (W_X8_laySpeeds (g_env Γ) h0 h1 h2 h3 h4 o0 o1 o2 o3 o4 o5 o6 o7 o8 o9 o10 o11 o12 o13 o14 o15 o16 o17 o18 o19 o20 o21 o22 o23 o24 o25 o26 o27 v_z_dots v_z_power v_now v_pulses_6 (upd v_most (Int32.toNatClampNeg x2) r5) (upd v_speed (Int32.toNatClampNeg x2) ((upd v_most (Int32.toNatClampNeg x2) r5) (Int32.toNatClampNeg x2)))) dX8_laySpeeds_70 4 rfl rfl f7 rfl ?_
          refine g_iinc 71 X (x2 + (1 : Int32)) [(2, .int (x2 + (1 : Int32))), (3, .int ((v_speed (Int32.toNatClampNeg (x2 - (1 : Int32)))) + (1 : Int32))), (0, .ref h0), (1, .int x1)] dX8_laySpeeds_71 3 rfl (k_ii_1 _) (Nat.le_of_ble_eq_true rfl) rfl ?_
          refine g_goto 74 X 10 dX8_laySpeeds_74 (by decide) ?_
          refine g_sub [(0, .ref h0), (1, .int x1), (2, .int (x2 + (1 : Int32)))] [2, 3, 0] rfl ?_
          exact ih (x2 + (1 : Int32)) v_pulses_6 (upd v_most (Int32.toNatClampNeg x2) r5) (upd v_speed (Int32.toNatClampNeg x2) ((upd v_most (Int32.toNatClampNeg x2) r5) (Int32.toNatClampNeg x2))) h
      · replace h := h.2 c
        refine g_iconst 30 X (1 : Int32) dX8_laySpeeds_30 k_ic_1 ?_
        refine g_goto 31 X 44 dX8_laySpeeds_31 (by decide) ?_
        refine g_istore_n 44 X [(3, .int (1 : Int32)), (0, .ref h0), (1, .int x1), (2, .int x2)] dX8_laySpeeds_44 rfl (Nat.le_of_ble_eq_true rfl) rfl ?_
        refine g_aload_n 45 X dX8_laySpeeds_45 1 rfl rfl ?_
        refine g_get 46 X fa_X8_44 dX8_laySpeeds_46 0 rfl rfl ?_
        refine g_iload_n 49 X dX8_laySpeeds_49 3 rfl rfl ?_
        refine g_aload_n 50 X dX8_laySpeeds_50 1 rfl rfl ?_
        refine g_get 51 X fa_X8_41 dX8_laySpeeds_51 0 rfl rfl ?_
        refine g_iload_n 54 X dX8_laySpeeds_54 3 rfl rfl ?_
        refine g_iald 55 X dX8_laySpeeds_55 3 rfl rfl f7 ?_
        refine g_iload_n 56 X dX8_laySpeeds_56 0 rfl rfl ?_
        refine g_icmp_ge 57 X 69 dX8_laySpeeds_57 (by decide) (fun c => ?_) (fun c => ?_)
        · replace h := h.1 c
          refine g_iload_n 69 X dX8_laySpeeds_69 0 rfl rfl ?_
          refine g_iast 70 X (W_X8_laySpeeds (g_env Γ) h0 h1 h2 h3 h4 o0 o1 o2 o3 o4 o5 o6 o7 o8 o9 o10 o11 o12 o13 o14 o15 o16 o17 o18 o19 o20 o21 o22 o23 o24 o25 o26 o27 v_z_dots v_z_power v_now v_pulses_6 (upd v_most (Int32.toNatClampNeg x2) r5) (upd v_speed (Int32.toNatClampNeg x2) (1 : Int32))) dX8_laySpeeds_70 4 rfl rfl f7 rfl ?_
          refine g_iinc 71 X (x2 + (1 : Int32)) [(2, .int (x2 + (1 : Int32))), (3, .int (1 : Int32)), (0, .ref h0), (1, .int x1)] dX8_laySpeeds_71 3 rfl (k_ii_1 _) (Nat.le_of_ble_eq_true rfl) rfl ?_
          refine g_goto 74 X 10 dX8_laySpeeds_74 (by decide) ?_
          refine g_sub [(0, .ref h0), (1, .int x1), (2, .int (x2 + (1 : Int32)))] [2, 3, 0] rfl ?_
          exact ih (x2 + (1 : Int32)) v_pulses_6 (upd v_most (Int32.toNatClampNeg x2) r5) (upd v_speed (Int32.toNatClampNeg x2) (1 : Int32)) h
        · replace h := h.2 c
          refine g_aload_n 60 X dX8_laySpeeds_60 1 rfl rfl ?_
          refine g_get 61 X fa_X8_41 dX8_laySpeeds_61 0 rfl rfl ?_
          refine g_iload_n 64 X dX8_laySpeeds_64 3 rfl rfl ?_
          refine g_iald 65 X dX8_laySpeeds_65 3 rfl rfl f7 ?_
          refine g_goto 66 X 70 dX8_laySpeeds_66 (by decide) ?_
          refine g_iast 70 X (W_X8_laySpeeds (g_env Γ) h0 h1 h2 h3 h4 o0 o1 o2 o3 o4 o5 o6 o7 o8 o9 o10 o11 o12 o13 o14 o15 o16 o17 o18 o19 o20 o21 o22 o23 o24 o25 o26 o27 v_z_dots v_z_power v_now v_pulses_6 (upd v_most (Int32.toNatClampNeg x2) r5) (upd v_speed (Int32.toNatClampNeg x2) ((upd v_most (Int32.toNatClampNeg x2) r5) (Int32.toNatClampNeg x2)))) dX8_laySpeeds_70 4 rfl rfl f7 rfl ?_
          refine g_iinc 71 X (x2 + (1 : Int32)) [(2, .int (x2 + (1 : Int32))), (3, .int (1 : Int32)), (0, .ref h0), (1, .int x1)] dX8_laySpeeds_71 3 rfl (k_ii_1 _) (Nat.le_of_ble_eq_true rfl) rfl ?_
          refine g_goto 74 X 10 dX8_laySpeeds_74 (by decide) ?_
          refine g_sub [(0, .ref h0), (1, .int x1), (2, .int (x2 + (1 : Int32)))] [2, 3, 0] rfl ?_
          exact ih (x2 + (1 : Int32)) v_pulses_6 (upd v_most (Int32.toNatClampNeg x2) r5) (upd v_speed (Int32.toNatClampNeg x2) ((upd v_most (Int32.toNatClampNeg x2) r5) (Int32.toNatClampNeg x2))) h
set_option maxHeartbeats 4000000 in
set_option maxRecDepth 100000 in
theorem l_X8_laySpeeds_81 {Γ : g_C} (X : g_X Γ (g_Rm 4 92) cX8_laySpeeds RX8 4) (h0 : Nat) (h1 : Nat) (h2 : Nat) (h3 : Nat) (h4 : Nat) (o0 o1 o2 o3 o4 o5 o6 o7 o8 o9 o10 o11 o12 o13 o14 o15 o16 o17 o18 o19 o20 o21 o22 o23 o24 o25 o26 o27 : Value) (v_z_dots : Int32) (v_z_power : Int32) (v_now : Nat → Int32) (v_pulses : Nat → Int32) (v_most : Nat → Int32) (x1 : Int32) {C139 : (Nat → Int32) → Prop} (hC139 : ∀ (v_speed : Nat → Int32), C139 v_speed → g_G Γ (g_Rm 4 92) 4 139 [] [] (W_X8_laySpeeds (g_env Γ) h0 h1 h2 h3 h4 o0 o1 o2 o3 o4 o5 o6 o7 o8 o9 o10 o11 o12 o13 o14 o15 o16 o17 o18 o19 o20 o21 o22 o23 o24 o25 o26 o27 v_z_dots v_z_power v_now v_pulses v_most v_speed)) : ∀ (n : Nat) (x2 : Int32) (v_speed : Nat → Int32), P_X8_laySpeeds_L81 x1 C139 n x2 v_speed → g_G Γ (g_Rm 4 92) 4 81 [(0, .ref h0), (1, .int x1), (2, .int x2)] [] (W_X8_laySpeeds (g_env Γ) h0 h1 h2 h3 h4 o0 o1 o2 o3 o4 o5 o6 o7 o8 o9 o10 o11 o12 o13 o14 o15 o16 o17 o18 o19 o20 o21 o22 o23 o24 o25 o26 o27 v_z_dots v_z_power v_now v_pulses v_most v_speed) := by
  intro n
  induction n with
  | zero => intro x2 v_speed h; exact False.elim h
  | succ n ih =>
    intro x2 v_speed h
    unfold P_X8_laySpeeds_L81 at h
    refine g_iload_n 81 X dX8_laySpeeds_81 2 rfl rfl ?_
    refine g_if_lt 82 X 139 dX8_laySpeeds_82 (by decide) (fun c => ?_) (fun c => ?_)
    · replace h := h.1 c
      refine g_sub [] [] rfl ?_
      exact hC139 v_speed h
    · replace h := h.2 c
      refine g_iload_n 85 X dX8_laySpeeds_85 2 rfl rfl ?_
      refine g_iload_n 86 X dX8_laySpeeds_86 1 rfl rfl ?_
      refine g_iconst 87 X (1 : Int32) dX8_laySpeeds_87 k_ic_1 ?_
      refine g_isub 88 X dX8_laySpeeds_88 ?_
      refine g_icmp_ne 89 X 96 dX8_laySpeeds_89 (by decide) (fun c => ?_) (fun c => ?_)
      · replace h := h.1 c
        refine g_aload_n 96 X dX8_laySpeeds_96 0 rfl rfl ?_
        refine g_get 97 X fa_X8_44 dX8_laySpeeds_97 0 rfl rfl ?_
        refine g_iload_n 100 X dX8_laySpeeds_100 2 rfl rfl ?_
        refine g_iconst 101 X (1 : Int32) dX8_laySpeeds_101 k_ic_1 ?_
        refine g_iadd 102 X dX8_laySpeeds_102 ?_
        have f15 := h.1; replace h := h.2
        refine g_iald 103 X dX8_laySpeeds_103 4 rfl rfl f15 ?_
        refine g_iconst 104 X (1 : Int32) dX8_laySpeeds_104 k_ic_1 ?_
        refine g_iadd 105 X dX8_laySpeeds_105 ?_
        refine g_istore_n 106 X [(3, .int ((v_speed (Int32.toNatClampNeg (x2 + (1 : Int32)))) + (1 : Int32))), (0, .ref h0), (1, .int x1), (2, .int x2)] dX8_laySpeeds_106 rfl (Nat.le_of_ble_eq_true rfl) rfl ?_
        refine g_aload_n 107 X dX8_laySpeeds_107 1 rfl rfl ?_
        refine g_get 108 X fa_X8_44 dX8_laySpeeds_108 0 rfl rfl ?_
        refine g_iload_n 111 X dX8_laySpeeds_111 3 rfl rfl ?_
        refine g_aload_n 112 X dX8_laySpeeds_112 1 rfl rfl ?_
        refine g_get 113 X fa_X8_44 dX8_laySpeeds_113 0 rfl rfl ?_
        refine g_iload_n 116 X dX8_laySpeeds_116 3 rfl rfl ?_
        have f16 := h.1; replace h := h.2
        refine g_iald 117 X dX8_laySpeeds_117 4 rfl rfl f16 ?_
        refine g_iload_n 118 X dX8_laySpeeds_118 0 rfl rfl ?_
        refine g_icmp_ge 119 X 131 dX8_laySpeeds_119 (by decide) (fun c => ?_) (fun c => ?_)
        · replace h := h.1 c
          refine g_iload_n 131 X dX8_laySpeeds_131 0 rfl rfl ?_
          refine g_iast 132 X (W_X8_laySpeeds (g_env Γ) h0 h1 h2 h3 h4 o0 o1 o2 o3 o4 o5 o6 o7 o8 o9 o10 o11 o12 o13 o14 o15 o16 o17 o18 o19 o20 o21 o22 o23 o24 o25 o26 o27 v_z_dots v_z_power v_now v_pulses v_most (upd v_speed (Int32.toNatClampNeg x2) ((v_speed (Int32.toNatClampNeg (x2 + (1 : Int32)))) + (1 : Int32)))) dX8_laySpeeds_132 4 rfl rfl f16 rfl ?_
          refine g_iinc 133 X (x2 + (-1 : Int32)) [(2, .int (x2 + (-1 : Int32))), (3, .int ((v_speed (Int32.toNatClampNeg (x2 + (1 : Int32)))) + (1 : Int32))), (0, .ref h0), (1, .int x1)] dX8_laySpeeds_133 3 rfl (k_ii_m1 _) (Nat.le_of_ble_eq_true rfl) rfl ?_
          refine g_goto 136 X 81 dX8_laySpeeds_136 (by decide) ?_
          refine g_sub [(0, .ref h0), (1, .int x1), (2, .int (x2 + (-1 : Int32)))] [2, 3, 0] rfl ?_
          exact ih (x2 + (-1 : Int32)) (upd v_speed (Int32.toNatClampNeg x2) ((v_speed (Int32.toNatClampNeg (x2 + (1 : Int32)))) + (1 : Int32))) h
        · replace h := h.2 c
          refine g_aload_n 122 X dX8_laySpeeds_122 1 rfl rfl ?_
          refine g_get 123 X fa_X8_44 dX8_laySpeeds_123 0 rfl rfl ?_
          refine g_iload_n 126 X dX8_laySpeeds_126 3 rfl rfl ?_
          refine g_iald 127 X dX8_laySpeeds_127 4 rfl rfl f16 ?_
          refine g_goto 128 X 132 dX8_laySpeeds_128 (by decide) ?_
          refine g_iast 132 X (W_X8_laySpeeds (g_env Γ) h0 h1 h2 h3 h4 o0 o1 o2 o3 o4 o5 o6 o7 o8 o9 o10 o11 o12 o13 o14 o15 o16 o17 o18 o19 o20 o21 o22 o23 o24 o25 o26 o27 v_z_dots v_z_power v_now v_pulses v_most (upd v_speed (Int32.toNatClampNeg x2) (v_speed (Int32.toNatClampNeg x2)))) dX8_laySpeeds_132 4 rfl rfl f16 rfl ?_
          refine g_iinc 133 X (x2 + (-1 : Int32)) [(2, .int (x2 + (-1 : Int32))), (3, .int ((v_speed (Int32.toNatClampNeg (x2 + (1 : Int32)))) + (1 : Int32))), (0, .ref h0), (1, .int x1)] dX8_laySpeeds_133 3 rfl (k_ii_m1 _) (Nat.le_of_ble_eq_true rfl) rfl ?_
          refine g_goto 136 X 81 dX8_laySpeeds_136 (by decide) ?_
          refine g_sub [(0, .ref h0), (1, .int x1), (2, .int (x2 + (-1 : Int32)))] [2, 3, 0] rfl ?_
          exact ih (x2 + (-1 : Int32)) (upd v_speed (Int32.toNatClampNeg x2) (v_speed (Int32.toNatClampNeg x2))) h
      · replace h := h.2 c
        refine g_iconst 92 X (1 : Int32) dX8_laySpeeds_92 k_ic_1 ?_
        refine g_goto 93 X 106 dX8_laySpeeds_93 (by decide) ?_
        refine g_istore_n 106 X [(3, .int (1 : Int32)), (0, .ref h0), (1, .int x1), (2, .int x2)] dX8_laySpeeds_106 rfl (Nat.le_of_ble_eq_true rfl) rfl ?_
        refine g_aload_n 107 X dX8_laySpeeds_107 1 rfl rfl ?_
        refine g_get 108 X fa_X8_44 dX8_laySpeeds_108 0 rfl rfl ?_
        refine g_iload_n 111 X dX8_laySpeeds_111 3 rfl rfl ?_
        refine g_aload_n 112 X dX8_laySpeeds_112 1 rfl rfl ?_
        refine g_get 113 X fa_X8_44 dX8_laySpeeds_113 0 rfl rfl ?_
        refine g_iload_n 116 X dX8_laySpeeds_116 3 rfl rfl ?_
        have f17 := h.1; replace h := h.2
        refine g_iald 117 X dX8_laySpeeds_117 4 rfl rfl f17 ?_
        refine g_iload_n 118 X dX8_laySpeeds_118 0 rfl rfl ?_
        refine g_icmp_ge 119 X 131 dX8_laySpeeds_119 (by decide) (fun c => ?_) (fun c => ?_)
        · replace h := h.1 c
          refine g_iload_n 131 X dX8_laySpeeds_131 0 rfl rfl ?_
          refine g_iast 132 X (W_X8_laySpeeds (g_env Γ) h0 h1 h2 h3 h4 o0 o1 o2 o3 o4 o5 o6 o7 o8 o9 o10 o11 o12 o13 o14 o15 o16 o17 o18 o19 o20 o21 o22 o23 o24 o25 o26 o27 v_z_dots v_z_power v_now v_pulses v_most (upd v_speed (Int32.toNatClampNeg x2) (1 : Int32))) dX8_laySpeeds_132 4 rfl rfl f17 rfl ?_
          refine g_iinc 133 X (x2 + (-1 : Int32)) [(2, .int (x2 + (-1 : Int32))), (3, .int (1 : Int32)), (0, .ref h0), (1, .int x1)] dX8_laySpeeds_133 3 rfl (k_ii_m1 _) (Nat.le_of_ble_eq_true rfl) rfl ?_
          refine g_goto 136 X 81 dX8_laySpeeds_136 (by decide) ?_
          refine g_sub [(0, .ref h0), (1, .int x1), (2, .int (x2 + (-1 : Int32)))] [2, 3, 0] rfl ?_
          exact ih (x2 + (-1 : Int32)) (upd v_speed (Int32.toNatClampNeg x2) (1 : Int32)) h
        · replace h := h.2 c
          refine g_aload_n 122 X dX8_laySpeeds_122 1 rfl rfl ?_
          refine g_get 123 X fa_X8_44 dX8_laySpeeds_123 0 rfl rfl ?_
          refine g_iload_n 126 X dX8_laySpeeds_126 3 rfl rfl ?_
          refine g_iald 127 X dX8_laySpeeds_127 4 rfl rfl f17 ?_
          refine g_goto 128 X 132 dX8_laySpeeds_128 (by decide) ?_
          refine g_iast 132 X (W_X8_laySpeeds (g_env Γ) h0 h1 h2 h3 h4 o0 o1 o2 o3 o4 o5 o6 o7 o8 o9 o10 o11 o12 o13 o14 o15 o16 o17 o18 o19 o20 o21 o22 o23 o24 o25 o26 o27 v_z_dots v_z_power v_now v_pulses v_most (upd v_speed (Int32.toNatClampNeg x2) (v_speed (Int32.toNatClampNeg x2)))) dX8_laySpeeds_132 4 rfl rfl f17 rfl ?_
          refine g_iinc 133 X (x2 + (-1 : Int32)) [(2, .int (x2 + (-1 : Int32))), (3, .int (1 : Int32)), (0, .ref h0), (1, .int x1)] dX8_laySpeeds_133 3 rfl (k_ii_m1 _) (Nat.le_of_ble_eq_true rfl) rfl ?_
          refine g_goto 136 X 81 dX8_laySpeeds_136 (by decide) ?_
          refine g_sub [(0, .ref h0), (1, .int x1), (2, .int (x2 + (-1 : Int32)))] [2, 3, 0] rfl ?_
          exact ih (x2 + (-1 : Int32)) (upd v_speed (Int32.toNatClampNeg x2) (v_speed (Int32.toNatClampNeg x2))) h
set_option maxHeartbeats 4000000 in
set_option maxRecDepth 100000 in
theorem c_X8_laySpeeds {l : Launch} {E : g_E} (h0 : Nat) (h1 : Nat) (h2 : Nat) (h3 : Nat) (h4 : Nat) (o0 o1 o2 o3 o4 o5 o6 o7 o8 o9 o10 o11 o12 o13 o14 o15 o16 o17 o18 o19 o20 o21 o22 o23 o24 o25 o26 o27 : Value) (v_z_dots : Int32) (v_z_power : Int32) (v_now : Nat → Int32) (v_pulses : Nat → Int32) (v_most : Nat → Int32) (v_speed : Nat → Int32) {K : (Nat → Int32) → (Nat → Int32) → (Nat → Int32) → Prop} (h : P_X8_laySpeeds v_z_dots v_z_power v_now v_pulses v_most v_speed K) : g_CV l E yX8_laySpeeds cX8_laySpeeds 4 (g_Rm 4 92) [.ref h0] (W_X8_laySpeeds E h0 h1 h2 h3 h4 o0 o1 o2 o3 o4 o5 o6 o7 o8 o9 o10 o11 o12 o13 o14 o15 o16 o17 o18 o19 o20 o21 o22 o23 o24 o25 o26 o27 v_z_dots v_z_power v_now v_pulses v_most v_speed) (fun (u : (Nat → Int32) × (Nat → Int32) × (Nat → Int32)) => K u.1 u.2.1 u.2.2) (fun (u : (Nat → Int32) × (Nat → Int32) × (Nat → Int32)) => (W_X8_laySpeeds E h0 h1 h2 h3 h4 o0 o1 o2 o3 o4 o5 o6 o7 o8 o9 o10 o11 o12 o13 o14 o15 o16 o17 o18 o19 o20 o21 o22 o23 o24 o25 o26 o27 v_z_dots v_z_power v_now u.1 u.2.1 u.2.2)) := by
  refine g_entV RX8 (by decide) rfl (Nat.le_of_ble_eq_true rfl) ?_
  intro Γ X hE hl ret
  subst hE
  subst hl
  unfold P_X8_laySpeeds at h
  show g_G Γ (g_Rm 4 92) 4 0 [(0, .ref h0)] [] (W_X8_laySpeeds (g_env Γ) h0 h1 h2 h3 h4 o0 o1 o2 o3 o4 o5 o6 o7 o8 o9 o10 o11 o12 o13 o14 o15 o16 o17 o18 o19 o20 o21 o22 o23 o24 o25 o26 o27 v_z_dots v_z_power v_now v_pulses v_most v_speed)
  refine g_aload_n 0 X dX8_laySpeeds_0 0 rfl rfl ?_
  refine g_get 1 X fa_X8_13 dX8_laySpeeds_1 0 rfl rfl ?_
  refine g_bipush 4 X (21 : Int32) dX8_laySpeeds_4 k_bp_21 ?_
  refine g_iald 6 X dX8_laySpeeds_6 1 rfl rfl (vp_lit (by decide)) ?_
  refine g_istore_n 7 X [(1, .int (v_now (Int32.toNatClampNeg (21 : Int32)))), (0, .ref h0)] dX8_laySpeeds_7 rfl (Nat.le_of_ble_eq_true rfl) rfl ?_
  refine g_iconst 8 X (0 : Int32) dX8_laySpeeds_8 k_ic_0 ?_
  refine g_istore_n 9 X [(2, .int (0 : Int32)), (1, .int (v_now (Int32.toNatClampNeg (21 : Int32)))), (0, .ref h0)] dX8_laySpeeds_9 rfl (Nat.le_of_ble_eq_true rfl) rfl ?_
  obtain ⟨n20, h⟩ := h
  refine g_sub [(0, .ref h0), (1, .int (v_now (Int32.toNatClampNeg (21 : Int32)))), (2, .int (0 : Int32))] [2, 1, 0] rfl ?_
  refine l_X8_laySpeeds_10 X h0 h1 h2 h3 h4 o0 o1 o2 o3 o4 o5 o6 o7 o8 o9 o10 o11 o12 o13 o14 o15 o16 o17 o18 o19 o20 o21 o22 o23 o24 o25 o26 o27 v_z_dots v_z_power v_now (v_now (Int32.toNatClampNeg (21 : Int32))) (fun v_pulses_9 v_most_10 v_speed_11 h => ?_) n20 (0 : Int32) v_pulses v_most v_speed h
  · refine g_iload_n 77 X dX8_laySpeeds_77 1 rfl rfl ?_
    refine g_iconst 78 X (1 : Int32) dX8_laySpeeds_78 k_ic_1 ?_
    refine g_isub 79 X dX8_laySpeeds_79 ?_
    refine g_istore_n 80 X [(2, .int ((v_now (Int32.toNatClampNeg (21 : Int32))) - (1 : Int32))), (0, .ref h0), (1, .int (v_now (Int32.toNatClampNeg (21 : Int32))))] dX8_laySpeeds_80 rfl (Nat.le_of_ble_eq_true rfl) rfl ?_
    obtain ⟨n19, h⟩ := h
    refine g_sub [(0, .ref h0), (1, .int (v_now (Int32.toNatClampNeg (21 : Int32)))), (2, .int ((v_now (Int32.toNatClampNeg (21 : Int32))) - (1 : Int32)))] [1, 2, 0] rfl ?_
    refine l_X8_laySpeeds_81 X h0 h1 h2 h3 h4 o0 o1 o2 o3 o4 o5 o6 o7 o8 o9 o10 o11 o12 o13 o14 o15 o16 o17 o18 o19 o20 o21 o22 o23 o24 o25 o26 o27 v_z_dots v_z_power v_now v_pulses_9 v_most_10 (v_now (Int32.toNatClampNeg (21 : Int32))) (fun v_speed_18 h => ?_) n19 ((v_now (Int32.toNatClampNeg (21 : Int32))) - (1 : Int32)) v_speed_11 h
    · exact ret 139 _ (v_pulses_9, v_most_10, v_speed_18) dX8_laySpeeds_139 h

def W_X8_ticks (E : g_E) (h0 : Nat) (h1 : Nat) (h2 : Nat) (h3 : Nat) (h4 : Nat) (o0 o1 o2 o3 o4 o5 o6 o7 o8 o9 o10 o11 o12 o13 o14 o15 o16 o17 o18 o19 o20 o21 o22 o23 o24 o25 o26 o27 : Value) (v_z_dots : Int32) (v_z_power : Int32) (v_now : Nat → Int32) (v_pulses : Nat → Int32) (v_most : Nat → Int32) (v_speed : Nat → Int32) : va_W := [(h0, .inr (8, [o0, o1, .int v_z_dots, o2, .int v_z_power, o3, o4, o5, .ref h1, o6, o7, o8, o9, o10, o11, o12, o13, o14, o15, o16, o17, .ref h2, .ref h3, .ref h4, o18, o19, o20, o21, o22, o23, o24, o25, o26, o27])), (h1, .inl (E.2.1, 30, .inl v_now)), (h2, .inl (E.2.1, 8, .inl v_pulses)), (h3, .inl (E.2.1, 8, .inl v_most)), (h4, .inl (E.2.1, 8, .inl v_speed))]
def P_X8_ticks_L8 (v_now : Nat → Int32) (v_speed : Nat → Int32) (C37 : Int32 → Prop) : Nat → Int32 → Int32 → Prop
  | 0, _, _ => False
  | n + 1, x1, x2 => (((v_now (Int32.toNatClampNeg (21 : Int32))) ≤ x2 → C37 x1) ∧ (¬ (v_now (Int32.toNatClampNeg (21 : Int32))) ≤ x2 → (vp_in x2 8 ∧ (¬ (v_speed (Int32.toNatClampNeg x2)) = 0 ∧ P_X8_ticks_L8 v_now v_speed C37 n (x1 + ((60 : Int32) / (v_speed (Int32.toNatClampNeg x2)))) (x2 + (1 : Int32))))))
def P_X8_ticks (v_z_dots : Int32) (v_z_power : Int32) (v_now : Nat → Int32) (v_pulses : Nat → Int32) (v_most : Nat → Int32) (v_speed : Nat → Int32) (K : Int32 → (Nat → Int32) → (Nat → Int32) → (Nat → Int32) → Prop) : Prop := (P_X8_laySpeeds v_z_dots v_z_power v_now v_pulses v_most v_speed (fun v_pulses_1 v_most_2 v_speed_3 => (∃ ne : Nat, P_X8_ticks_L8 v_now v_speed_3 (fun x8 => K x8 v_pulses_1 v_most_2 v_speed_3) ne (0 : Int32) (0 : Int32))))
set_option maxHeartbeats 4000000 in
set_option maxRecDepth 100000 in
theorem l_X8_ticks_8 {Γ : g_C} (X : g_X Γ (g_Rm 5 115) cX8_ticks RX8 3) (h0 : Nat) (h1 : Nat) (h2 : Nat) (h3 : Nat) (h4 : Nat) (o0 o1 o2 o3 o4 o5 o6 o7 o8 o9 o10 o11 o12 o13 o14 o15 o16 o17 o18 o19 o20 o21 o22 o23 o24 o25 o26 o27 : Value) (v_z_dots : Int32) (v_z_power : Int32) (v_now : Nat → Int32) (v_pulses : Nat → Int32) (v_most : Nat → Int32) (v_speed : Nat → Int32) {C37 : Int32 → Prop} (hC37 : ∀ (x1 : Int32), C37 x1 → g_G Γ (g_Rm 5 115) 3 37 [(1, .int x1)] [] (W_X8_ticks (g_env Γ) h0 h1 h2 h3 h4 o0 o1 o2 o3 o4 o5 o6 o7 o8 o9 o10 o11 o12 o13 o14 o15 o16 o17 o18 o19 o20 o21 o22 o23 o24 o25 o26 o27 v_z_dots v_z_power v_now v_pulses v_most v_speed)) : ∀ (n : Nat) (x1 : Int32) (x2 : Int32), P_X8_ticks_L8 v_now v_speed C37 n x1 x2 → g_G Γ (g_Rm 5 115) 3 8 [(0, .ref h0), (1, .int x1), (2, .int x2)] [] (W_X8_ticks (g_env Γ) h0 h1 h2 h3 h4 o0 o1 o2 o3 o4 o5 o6 o7 o8 o9 o10 o11 o12 o13 o14 o15 o16 o17 o18 o19 o20 o21 o22 o23 o24 o25 o26 o27 v_z_dots v_z_power v_now v_pulses v_most v_speed) := by
  intro n
  induction n with
  | zero => intro x1 x2 h; exact False.elim h
  | succ n ih =>
    intro x1 x2 h
    unfold P_X8_ticks_L8 at h
    refine g_iload_n 8 X dX8_ticks_8 2 rfl rfl ?_
    refine g_aload_n 9 X dX8_ticks_9 0 rfl rfl ?_
    refine g_get 10 X fa_X8_13 dX8_ticks_10 0 rfl rfl ?_
    refine g_bipush 13 X (21 : Int32) dX8_ticks_13 k_bp_21 ?_
    refine g_iald 15 X dX8_ticks_15 1 rfl rfl (vp_lit (by decide)) ?_
    refine g_icmp_ge 16 X 37 dX8_ticks_16 (by decide) (fun c => ?_) (fun c => ?_)
    · replace h := h.1 c
      refine g_sub [(1, .int x1)] [1] rfl ?_
      exact hC37 x1 h
    · replace h := h.2 c
      refine g_iload_n 19 X dX8_ticks_19 1 rfl rfl ?_
      refine g_bipush 20 X (60 : Int32) dX8_ticks_20 k_bp_60 ?_
      refine g_aload_n 22 X dX8_ticks_22 0 rfl rfl ?_
      refine g_get 23 X fa_X8_44 dX8_ticks_23 0 rfl rfl ?_
      refine g_iload_n 26 X dX8_ticks_26 2 rfl rfl ?_
      have f6 := h.1; replace h := h.2
      refine g_iald 27 X dX8_ticks_27 4 rfl rfl f6 ?_
      have f7 := h.1; replace h := h.2
      refine g_idiv 28 X dX8_ticks_28 f7 ?_
      refine g_iadd 29 X dX8_ticks_29 ?_
      refine g_istore_n 30 X [(1, .int (x1 + ((60 : Int32) / (v_speed (Int32.toNatClampNeg x2))))), (0, .ref h0), (2, .int x2)] dX8_ticks_30 rfl (Nat.le_of_ble_eq_true rfl) rfl ?_
      refine g_iinc 31 X (x2 + (1 : Int32)) [(2, .int (x2 + (1 : Int32))), (1, .int (x1 + ((60 : Int32) / (v_speed (Int32.toNatClampNeg x2))))), (0, .ref h0)] dX8_ticks_31 2 rfl (k_ii_1 _) (Nat.le_of_ble_eq_true rfl) rfl ?_
      refine g_goto 34 X 8 dX8_ticks_34 (by decide) ?_
      refine g_sub [(0, .ref h0), (1, .int (x1 + ((60 : Int32) / (v_speed (Int32.toNatClampNeg x2))))), (2, .int (x2 + (1 : Int32)))] [2, 1, 0] rfl ?_
      exact ih (x1 + ((60 : Int32) / (v_speed (Int32.toNatClampNeg x2)))) (x2 + (1 : Int32)) h
set_option maxHeartbeats 4000000 in
set_option maxRecDepth 100000 in
theorem c_X8_ticks {l : Launch} {E : g_E} (h0 : Nat) (h1 : Nat) (h2 : Nat) (h3 : Nat) (h4 : Nat) (o0 o1 o2 o3 o4 o5 o6 o7 o8 o9 o10 o11 o12 o13 o14 o15 o16 o17 o18 o19 o20 o21 o22 o23 o24 o25 o26 o27 : Value) (v_z_dots : Int32) (v_z_power : Int32) (v_now : Nat → Int32) (v_pulses : Nat → Int32) (v_most : Nat → Int32) (v_speed : Nat → Int32) {K : Int32 → (Nat → Int32) → (Nat → Int32) → (Nat → Int32) → Prop} (h : P_X8_ticks v_z_dots v_z_power v_now v_pulses v_most v_speed K) : g_CI l E yX8_ticks cX8_ticks 3 .int (g_Rm 5 115) [.ref h0] (W_X8_ticks E h0 h1 h2 h3 h4 o0 o1 o2 o3 o4 o5 o6 o7 o8 o9 o10 o11 o12 o13 o14 o15 o16 o17 o18 o19 o20 o21 o22 o23 o24 o25 o26 o27 v_z_dots v_z_power v_now v_pulses v_most v_speed) (fun r (u : (Nat → Int32) × (Nat → Int32) × (Nat → Int32)) => K r u.1 u.2.1 u.2.2) (fun (u : (Nat → Int32) × (Nat → Int32) × (Nat → Int32)) => (W_X8_ticks E h0 h1 h2 h3 h4 o0 o1 o2 o3 o4 o5 o6 o7 o8 o9 o10 o11 o12 o13 o14 o15 o16 o17 o18 o19 o20 o21 o22 o23 o24 o25 o26 o27 v_z_dots v_z_power v_now u.1 u.2.1 u.2.2)) := by
  refine g_entI RX8 (by decide) rfl (Nat.le_of_ble_eq_true rfl) ?_
  intro Γ X hE hl ret
  subst hE
  subst hl
  unfold P_X8_ticks at h
  show g_G Γ (g_Rm 5 115) 3 0 [(0, .ref h0)] [] (W_X8_ticks (g_env Γ) h0 h1 h2 h3 h4 o0 o1 o2 o3 o4 o5 o6 o7 o8 o9 o10 o11 o12 o13 o14 o15 o16 o17 o18 o19 o20 o21 o22 o23 o24 o25 o26 o27 v_z_dots v_z_power v_now v_pulses v_most v_speed)
  refine g_aload_n 0 X dX8_ticks_0 0 rfl rfl ?_
  refine g_cVV 1 X (st := []) mv_X8_165 dX8_ticks_1 h0 8 [] (c_X8_laySpeeds h0 h1 h2 h3 h4 o0 o1 o2 o3 o4 o5 o6 o7 o8 o9 o10 o11 o12 o13 o14 o15 o16 o17 o18 o19 o20 o21 o22 o23 o24 o25 o26 o27 v_z_dots v_z_power v_now v_pulses v_most v_speed h) [0, 1, 2, 3, 4] (fun u : (Nat → Int32) × (Nat → Int32) × (Nat → Int32) => (W_X8_ticks (g_env Γ) h0 h1 h2 h3 h4 o0 o1 o2 o3 o4 o5 o6 o7 o8 o9 o10 o11 o12 o13 o14 o15 o16 o17 o18 o19 o20 o21 o22 o23 o24 o25 o26 o27 v_z_dots v_z_power v_now u.1 u.2.1 u.2.2)) rfl ⟨(Nat.le_of_ble_eq_true rfl), (Nat.le_of_ble_eq_true rfl)⟩ ⟨rfl, rfl⟩ (Nat.le_of_ble_eq_true rfl) rfl rfl rfl (by decide) (fun _ => rfl) (fun _ => rfl) (fun u h => ?_)
  obtain ⟨v_pulses_1, v_most_2, v_speed_3⟩ := u
  dsimp only at h ⊢
  refine g_iconst 4 X (0 : Int32) dX8_ticks_4 k_ic_0 ?_
  refine g_istore_n 5 X [(1, .int (0 : Int32)), (0, .ref h0)] dX8_ticks_5 rfl (Nat.le_of_ble_eq_true rfl) rfl ?_
  refine g_iconst 6 X (0 : Int32) dX8_ticks_6 k_ic_0 ?_
  refine g_istore_n 7 X [(2, .int (0 : Int32)), (1, .int (0 : Int32)), (0, .ref h0)] dX8_ticks_7 rfl (Nat.le_of_ble_eq_true rfl) rfl ?_
  obtain ⟨n9, h⟩ := h
  refine g_sub [(0, .ref h0), (1, .int (0 : Int32)), (2, .int (0 : Int32))] [2, 1, 0] rfl ?_
  refine l_X8_ticks_8 X h0 h1 h2 h3 h4 o0 o1 o2 o3 o4 o5 o6 o7 o8 o9 o10 o11 o12 o13 o14 o15 o16 o17 o18 o19 o20 o21 o22 o23 o24 o25 o26 o27 v_z_dots v_z_power v_now v_pulses_1 v_most_2 v_speed_3 (fun x8 h => ?_) n9 (0 : Int32) (0 : Int32) h
  · refine g_iload_n 37 X dX8_ticks_37 0 rfl rfl ?_
    exact ret 38 _ _ (v_pulses_1, v_most_2, v_speed_3) dX8_ticks_38 (vp_nar_int _) h

def W_X8_restNow (E : g_E) (h0 : Nat) (h1 : Nat) (h2 : Nat) (h3 : Nat) (o0 o1 o2 o3 o4 o5 o6 o7 o8 o9 o10 o11 o12 o13 o14 o15 o16 o17 o18 o19 o20 o21 o22 o23 o24 : Value) (v_z_dots : Int32) (v_z_cool : Int32) (v_z_low : Int32) (v_z_high : Int32) (v_z_ghost : Int32) (v_z_dead : Int32) (v_now : Nat → Int32) (v_trial : Nat → Int32) (v_pulses : Nat → Int32) : va_W := [(h0, .inr (8, [o0, o1, .int v_z_dots, .int v_z_cool, o2, .int v_z_low, .int v_z_high, .int v_z_ghost, .ref h1, .ref h2, o3, o4, o5, o6, o7, o8, o9, o10, o11, o12, .int v_z_dead, .ref h3, o13, o14, o15, o16, o17, o18, o19, o20, o21, o22, o23, o24])), (h1, .inl (E.2.1, 30, .inl v_now)), (h2, .inl (E.2.1, 30, .inl v_trial)), (h3, .inl (E.2.1, 8, .inl v_pulses))]
def P_X8_restNow_L31 (v_z_dots : Int32) (v_z_cool : Int32) (x1 : Int32) (C50 : (Nat → Int32) → Prop) : Nat → Int32 → (Nat → Int32) → Prop
  | 0, _, _ => False
  | n + 1, x2, v_trial => ((x1 ≤ x2 → C50 v_trial) ∧ (¬ x1 ≤ x2 → (P_X8_coolOn v_z_dots v_z_cool v_trial (fun v_trial_2 => P_X8_restNow_L31 v_z_dots v_z_cool x1 C50 n (x2 + (1 : Int32)) v_trial_2))))
def P_X8_restNow_L2 (v_z_dots : Int32) (v_z_cool : Int32) (v_z_low : Int32) (v_z_high : Int32) (v_z_ghost : Int32) (v_z_dead : Int32) (v_now : Nat → Int32) (C99 : Int32 → (Nat → Int32) → (Nat → Int32) → Prop) (C107 : (Nat → Int32) → (Nat → Int32) → Prop) : Nat → Int32 → (Nat → Int32) → (Nat → Int32) → Prop
  | 0, _, _, _ => False
  | n + 1, x1, v_trial, v_pulses => (((60 : Int32) < x1 → C107 v_trial v_pulses) ∧ (¬ (60 : Int32) < x1 → (((v_now (Int32.toNatClampNeg (21 : Int32))) ≤ (0 : Int32) → C107 v_trial v_pulses) ∧ (¬ (v_now (Int32.toNatClampNeg (21 : Int32))) ≤ (0 : Int32) → (P_X8_copy v_now v_trial (fun v_trial_1 => (∃ ne : Nat, P_X8_restNow_L31 v_z_dots v_z_cool x1 (fun v_trial_4 => (P_X8_takeLine v_trial_4 (fun r5 v_trial_6 => (P_X8_printOn r5 v_z_dots v_z_cool v_z_low v_z_high v_z_ghost v_z_dead v_pulses v_trial_6 (fun v_pulses_7 v_trial_8 => ((¬ (v_trial_8 (Int32.toNatClampNeg (27 : Int32))) = (v_now (Int32.toNatClampNeg (27 : Int32))) → P_X8_restNow_L2 v_z_dots v_z_cool v_z_low v_z_high v_z_ghost v_z_dead v_now C99 C107 n (x1 + (1 : Int32)) v_trial_8 v_pulses_7) ∧ ((v_trial_8 (Int32.toNatClampNeg (27 : Int32))) = (v_now (Int32.toNatClampNeg (27 : Int32))) → ((¬ (v_trial_8 (Int32.toNatClampNeg (28 : Int32))) = (v_now (Int32.toNatClampNeg (28 : Int32))) → P_X8_restNow_L2 v_z_dots v_z_cool v_z_low v_z_high v_z_ghost v_z_dead v_now C99 C107 n (x1 + (1 : Int32)) v_trial_8 v_pulses_7) ∧ ((v_trial_8 (Int32.toNatClampNeg (28 : Int32))) = (v_now (Int32.toNatClampNeg (28 : Int32))) → C99 x1 v_trial_8 v_pulses_7))))))))) ne (0 : Int32) v_trial_1)))))))
def P_X8_restNow (v_z_dots : Int32) (v_z_cool : Int32) (v_z_low : Int32) (v_z_high : Int32) (v_z_ghost : Int32) (v_z_dead : Int32) (v_now : Nat → Int32) (v_trial : Nat → Int32) (v_pulses : Nat → Int32) (K : Int32 → (Nat → Int32) → (Nat → Int32) → Prop) : Prop := (∃ ne : Nat, P_X8_restNow_L2 v_z_dots v_z_cool v_z_low v_z_high v_z_ghost v_z_dead v_now (fun x17 v_trial_18 v_pulses_19 => K x17 v_trial_18 v_pulses_19) (fun v_trial_20 v_pulses_21 => K (-9 : Int32) v_trial_20 v_pulses_21) ne (0 : Int32) v_trial v_pulses)
set_option maxHeartbeats 4000000 in
set_option maxRecDepth 100000 in
theorem l_X8_restNow_31 {Γ : g_C} (X : g_X Γ (g_Rm 3 69) cX8_restNow RX8 3) (h0 : Nat) (h1 : Nat) (h2 : Nat) (h3 : Nat) (o0 o1 o2 o3 o4 o5 o6 o7 o8 o9 o10 o11 o12 o13 o14 o15 o16 o17 o18 o19 o20 o21 o22 o23 o24 : Value) (v_z_dots : Int32) (v_z_cool : Int32) (v_z_low : Int32) (v_z_high : Int32) (v_z_ghost : Int32) (v_z_dead : Int32) (v_now : Nat → Int32) (v_pulses : Nat → Int32) (x1 : Int32) {C50 : (Nat → Int32) → Prop} (hC50 : ∀ (v_trial : Nat → Int32), C50 v_trial → g_G Γ (g_Rm 3 69) 3 50 [(0, .ref h0), (1, .int x1)] [] (W_X8_restNow (g_env Γ) h0 h1 h2 h3 o0 o1 o2 o3 o4 o5 o6 o7 o8 o9 o10 o11 o12 o13 o14 o15 o16 o17 o18 o19 o20 o21 o22 o23 o24 v_z_dots v_z_cool v_z_low v_z_high v_z_ghost v_z_dead v_now v_trial v_pulses)) : ∀ (n : Nat) (x2 : Int32) (v_trial : Nat → Int32), P_X8_restNow_L31 v_z_dots v_z_cool x1 C50 n x2 v_trial → g_G Γ (g_Rm 3 69) 3 31 [(0, .ref h0), (1, .int x1), (2, .int x2)] [] (W_X8_restNow (g_env Γ) h0 h1 h2 h3 o0 o1 o2 o3 o4 o5 o6 o7 o8 o9 o10 o11 o12 o13 o14 o15 o16 o17 o18 o19 o20 o21 o22 o23 o24 v_z_dots v_z_cool v_z_low v_z_high v_z_ghost v_z_dead v_now v_trial v_pulses) := by
  intro n
  induction n with
  | zero => intro x2 v_trial h; exact False.elim h
  | succ n ih =>
    intro x2 v_trial h
    unfold P_X8_restNow_L31 at h
    refine g_iload_n 31 X dX8_restNow_31 2 rfl rfl ?_
    refine g_iload_n 32 X dX8_restNow_32 1 rfl rfl ?_
    refine g_icmp_ge 33 X 50 dX8_restNow_33 (by decide) (fun c => ?_) (fun c => ?_)
    · replace h := h.1 c
      refine g_sub [(0, .ref h0), (1, .int x1)] [0, 1] rfl ?_
      exact hC50 v_trial h
    · replace h := h.2 c
      refine g_aload_n 36 X dX8_restNow_36 0 rfl rfl ?_
      refine g_aload_n 37 X dX8_restNow_37 0 rfl rfl ?_
      refine g_get 38 X fa_X8_16 dX8_restNow_38 0 rfl rfl ?_
      refine g_cVV 41 X (st := []) mv_X8_133 dX8_restNow_41 h0 8 [.ref h2] (c_X8_coolOn h0 h2 o0 o1 o2 (.int v_z_low) (.int v_z_high) (.int v_z_ghost) (.ref h1) (.ref h2) o3 o4 o5 o6 o7 o8 o9 o10 o11 o12 (.int v_z_dead) (.ref h3) o13 o14 o15 o16 o17 o18 o19 o20 o21 o22 o23 o24 v_z_dots v_z_cool v_trial h) [0, 2] (fun u : (Nat → Int32) => (W_X8_restNow (g_env Γ) h0 h1 h2 h3 o0 o1 o2 o3 o4 o5 o6 o7 o8 o9 o10 o11 o12 o13 o14 o15 o16 o17 o18 o19 o20 o21 o22 o23 o24 v_z_dots v_z_cool v_z_low v_z_high v_z_ghost v_z_dead v_now u v_pulses)) rfl ⟨(Nat.le_of_ble_eq_true rfl), (Nat.le_of_ble_eq_true rfl)⟩ ⟨rfl, rfl⟩ (Nat.le_of_ble_eq_true rfl) rfl rfl rfl (by decide) (fun _ => rfl) (fun _ => rfl) (fun u h => ?_)
      obtain ⟨v_trial_3, rfl⟩ : ∃ z, z = u := ⟨_, rfl⟩
      refine g_iinc 44 X (x2 + (1 : Int32)) [(2, .int (x2 + (1 : Int32))), (0, .ref h0), (1, .int x1)] dX8_restNow_44 2 rfl (k_ii_1 _) (Nat.le_of_ble_eq_true rfl) rfl ?_
      refine g_goto 47 X 31 dX8_restNow_47 (by decide) ?_
      refine g_sub [(0, .ref h0), (1, .int x1), (2, .int (x2 + (1 : Int32)))] [1, 2, 0] rfl ?_
      exact ih (x2 + (1 : Int32)) v_trial_3 h
set_option maxHeartbeats 4000000 in
set_option maxRecDepth 100000 in
theorem l_X8_restNow_2 {Γ : g_C} (X : g_X Γ (g_Rm 3 69) cX8_restNow RX8 3) (h0 : Nat) (h1 : Nat) (h2 : Nat) (h3 : Nat) (o0 o1 o2 o3 o4 o5 o6 o7 o8 o9 o10 o11 o12 o13 o14 o15 o16 o17 o18 o19 o20 o21 o22 o23 o24 : Value) (v_z_dots : Int32) (v_z_cool : Int32) (v_z_low : Int32) (v_z_high : Int32) (v_z_ghost : Int32) (v_z_dead : Int32) (v_now : Nat → Int32) {C99 : Int32 → (Nat → Int32) → (Nat → Int32) → Prop} {C107 : (Nat → Int32) → (Nat → Int32) → Prop} (hC99 : ∀ (x1 : Int32) (v_trial : Nat → Int32) (v_pulses : Nat → Int32), C99 x1 v_trial v_pulses → g_G Γ (g_Rm 3 69) 3 99 [(1, .int x1)] [] (W_X8_restNow (g_env Γ) h0 h1 h2 h3 o0 o1 o2 o3 o4 o5 o6 o7 o8 o9 o10 o11 o12 o13 o14 o15 o16 o17 o18 o19 o20 o21 o22 o23 o24 v_z_dots v_z_cool v_z_low v_z_high v_z_ghost v_z_dead v_now v_trial v_pulses)) (hC107 : ∀ (v_trial : Nat → Int32) (v_pulses : Nat → Int32), C107 v_trial v_pulses → g_G Γ (g_Rm 3 69) 3 107 [] [] (W_X8_restNow (g_env Γ) h0 h1 h2 h3 o0 o1 o2 o3 o4 o5 o6 o7 o8 o9 o10 o11 o12 o13 o14 o15 o16 o17 o18 o19 o20 o21 o22 o23 o24 v_z_dots v_z_cool v_z_low v_z_high v_z_ghost v_z_dead v_now v_trial v_pulses)) : ∀ (n : Nat) (x1 : Int32) (v_trial : Nat → Int32) (v_pulses : Nat → Int32), P_X8_restNow_L2 v_z_dots v_z_cool v_z_low v_z_high v_z_ghost v_z_dead v_now C99 C107 n x1 v_trial v_pulses → g_G Γ (g_Rm 3 69) 3 2 [(0, .ref h0), (1, .int x1)] [] (W_X8_restNow (g_env Γ) h0 h1 h2 h3 o0 o1 o2 o3 o4 o5 o6 o7 o8 o9 o10 o11 o12 o13 o14 o15 o16 o17 o18 o19 o20 o21 o22 o23 o24 v_z_dots v_z_cool v_z_low v_z_high v_z_ghost v_z_dead v_now v_trial v_pulses) := by
  intro n
  induction n with
  | zero => intro x1 v_trial v_pulses h; exact False.elim h
  | succ n ih =>
    intro x1 v_trial v_pulses h
    unfold P_X8_restNow_L2 at h
    refine g_iload_n 2 X dX8_restNow_2 1 rfl rfl ?_
    refine g_bipush 3 X (60 : Int32) dX8_restNow_3 k_bp_60 ?_
    refine g_icmp_gt 5 X 107 dX8_restNow_5 (by decide) (fun c => ?_) (fun c => ?_)
    · replace h := h.1 c
      refine g_sub [] [] rfl ?_
      exact hC107 v_trial v_pulses h
    · replace h := h.2 c
      refine g_aload_n 8 X dX8_restNow_8 0 rfl rfl ?_
      refine g_get 9 X fa_X8_13 dX8_restNow_9 0 rfl rfl ?_
      refine g_bipush 12 X (21 : Int32) dX8_restNow_12 k_bp_21 ?_
      refine g_iald 14 X dX8_restNow_14 1 rfl rfl (vp_lit (by decide)) ?_
      refine g_if_le 15 X 107 dX8_restNow_15 (by decide) (fun c => ?_) (fun c => ?_)
      · replace h := h.1 c
        refine g_sub [] [] rfl ?_
        exact hC107 v_trial v_pulses h
      · replace h := h.2 c
        refine g_aload_n 18 X dX8_restNow_18 0 rfl rfl ?_
        refine g_get 19 X fa_X8_13 dX8_restNow_19 0 rfl rfl ?_
        refine g_aload_n 22 X dX8_restNow_22 0 rfl rfl ?_
        refine g_get 23 X fa_X8_16 dX8_restNow_23 0 rfl rfl ?_
        refine g_cSV 26 X (st := []) mv_X8_168 dX8_restNow_26 [.ref h1, .ref h2] (c_X8_copy h1 h2 v_now v_trial h) [1, 2] (fun u : (Nat → Int32) => (W_X8_restNow (g_env Γ) h0 h1 h2 h3 o0 o1 o2 o3 o4 o5 o6 o7 o8 o9 o10 o11 o12 o13 o14 o15 o16 o17 o18 o19 o20 o21 o22 o23 o24 v_z_dots v_z_cool v_z_low v_z_high v_z_ghost v_z_dead v_now u v_pulses)) rfl ⟨(Nat.le_of_ble_eq_true rfl), (Nat.le_of_ble_eq_true rfl)⟩ ⟨rfl, rfl⟩ (Nat.le_of_ble_eq_true rfl) rfl (by decide) (fun _ => rfl) (fun _ => rfl) (fun u h => ?_)
        obtain ⟨v_trial_10, rfl⟩ : ∃ z, z = u := ⟨_, rfl⟩
        refine g_iconst 29 X (0 : Int32) dX8_restNow_29 k_ic_0 ?_
        refine g_istore_n 30 X [(2, .int (0 : Int32)), (0, .ref h0), (1, .int x1)] dX8_restNow_30 rfl (Nat.le_of_ble_eq_true rfl) rfl ?_
        obtain ⟨n16, h⟩ := h
        refine g_sub [(0, .ref h0), (1, .int x1), (2, .int (0 : Int32))] [1, 2, 0] rfl ?_
        refine l_X8_restNow_31 X h0 h1 h2 h3 o0 o1 o2 o3 o4 o5 o6 o7 o8 o9 o10 o11 o12 o13 o14 o15 o16 o17 o18 o19 o20 o21 o22 o23 o24 v_z_dots v_z_cool v_z_low v_z_high v_z_ghost v_z_dead v_now v_pulses x1 (fun v_trial_11 h => ?_) n16 (0 : Int32) v_trial_10 h
        · refine g_aload_n 50 X dX8_restNow_50 0 rfl rfl ?_
          refine g_aload_n 51 X dX8_restNow_51 0 rfl rfl ?_
          refine g_get 52 X fa_X8_16 dX8_restNow_52 0 rfl rfl ?_
          refine g_aload_n 55 X dX8_restNow_55 0 rfl rfl ?_
          refine g_get 56 X fa_X8_16 dX8_restNow_56 0 rfl rfl ?_
          refine g_cSI 59 X (st := [.ref h2, .ref h0]) mv_X8_148 dX8_restNow_59 [.ref h2] (c_X8_takeLine h2 v_trial_11 h) [2] (fun u : (Nat → Int32) => (W_X8_restNow (g_env Γ) h0 h1 h2 h3 o0 o1 o2 o3 o4 o5 o6 o7 o8 o9 o10 o11 o12 o13 o14 o15 o16 o17 o18 o19 o20 o21 o22 o23 o24 v_z_dots v_z_cool v_z_low v_z_high v_z_ghost v_z_dead v_now u v_pulses)) rfl ⟨(Nat.le_of_ble_eq_true rfl), (Nat.le_of_ble_eq_true rfl)⟩ ⟨rfl, rfl⟩ (Nat.le_of_ble_eq_true rfl) rfl (by decide) (fun _ => rfl) (fun _ => rfl) (fun r12 u h => ?_)
          obtain ⟨v_trial_13, rfl⟩ : ∃ z, z = u := ⟨_, rfl⟩
          refine g_cVV 62 X (st := []) mv_X8_152 dX8_restNow_62 h0 8 [.ref h2, .int r12] (c_X8_printOn h0 h3 h2 o0 o1 o2 (.ref h1) (.ref h2) o3 o4 o5 o6 o7 o8 o9 o10 o11 o12 o13 o14 o15 o16 o17 o18 o19 o20 o21 o22 o23 o24 v_z_dots v_z_cool v_z_low v_z_high v_z_ghost v_z_dead v_pulses v_trial_13 r12 h) [0, 3, 2] (fun u : (Nat → Int32) × (Nat → Int32) => (W_X8_restNow (g_env Γ) h0 h1 h2 h3 o0 o1 o2 o3 o4 o5 o6 o7 o8 o9 o10 o11 o12 o13 o14 o15 o16 o17 o18 o19 o20 o21 o22 o23 o24 v_z_dots v_z_cool v_z_low v_z_high v_z_ghost v_z_dead v_now u.2 u.1)) rfl ⟨(Nat.le_of_ble_eq_true rfl), (Nat.le_of_ble_eq_true rfl)⟩ ⟨rfl, rfl⟩ (Nat.le_of_ble_eq_true rfl) rfl rfl rfl (by decide) (fun _ => rfl) (fun _ => rfl) (fun u h => ?_)
          obtain ⟨v_pulses_14, v_trial_15⟩ := u
          dsimp only at h ⊢
          refine g_aload_n 65 X dX8_restNow_65 0 rfl rfl ?_
          refine g_get 66 X fa_X8_16 dX8_restNow_66 0 rfl rfl ?_
          refine g_bipush 69 X (27 : Int32) dX8_restNow_69 k_bp_27 ?_
          refine g_iald 71 X dX8_restNow_71 2 rfl rfl (vp_lit (by decide)) ?_
          refine g_aload_n 72 X dX8_restNow_72 0 rfl rfl ?_
          refine g_get 73 X fa_X8_13 dX8_restNow_73 0 rfl rfl ?_
          refine g_bipush 76 X (27 : Int32) dX8_restNow_76 k_bp_27 ?_
          refine g_iald 78 X dX8_restNow_78 1 rfl rfl (vp_lit (by decide)) ?_
          refine g_icmp_ne 79 X 101 dX8_restNow_79 (by decide) (fun c => ?_) (fun c => ?_)
          · replace h := h.1 c
            refine g_iinc 101 X (x1 + (1 : Int32)) [(1, .int (x1 + (1 : Int32))), (0, .ref h0)] dX8_restNow_101 1 rfl (k_ii_1 _) (Nat.le_of_ble_eq_true rfl) rfl ?_
            refine g_goto 104 X 2 dX8_restNow_104 (by decide) ?_
            refine g_sub [(0, .ref h0), (1, .int (x1 + (1 : Int32)))] [1, 0] rfl ?_
            exact ih (x1 + (1 : Int32)) v_trial_15 v_pulses_14 h
          · replace h := h.2 c
            refine g_aload_n 82 X dX8_restNow_82 0 rfl rfl ?_
            refine g_get 83 X fa_X8_16 dX8_restNow_83 0 rfl rfl ?_
            refine g_bipush 86 X (28 : Int32) dX8_restNow_86 k_bp_28 ?_
            refine g_iald 88 X dX8_restNow_88 2 rfl rfl (vp_lit (by decide)) ?_
            refine g_aload_n 89 X dX8_restNow_89 0 rfl rfl ?_
            refine g_get 90 X fa_X8_13 dX8_restNow_90 0 rfl rfl ?_
            refine g_bipush 93 X (28 : Int32) dX8_restNow_93 k_bp_28 ?_
            refine g_iald 95 X dX8_restNow_95 1 rfl rfl (vp_lit (by decide)) ?_
            refine g_icmp_ne 96 X 101 dX8_restNow_96 (by decide) (fun c => ?_) (fun c => ?_)
            · replace h := h.1 c
              refine g_iinc 101 X (x1 + (1 : Int32)) [(1, .int (x1 + (1 : Int32))), (0, .ref h0)] dX8_restNow_101 1 rfl (k_ii_1 _) (Nat.le_of_ble_eq_true rfl) rfl ?_
              refine g_goto 104 X 2 dX8_restNow_104 (by decide) ?_
              refine g_sub [(0, .ref h0), (1, .int (x1 + (1 : Int32)))] [1, 0] rfl ?_
              exact ih (x1 + (1 : Int32)) v_trial_15 v_pulses_14 h
            · replace h := h.2 c
              refine g_sub [(1, .int x1)] [1] rfl ?_
              exact hC99 x1 v_trial_15 v_pulses_14 h
set_option maxHeartbeats 4000000 in
set_option maxRecDepth 100000 in
theorem c_X8_restNow {l : Launch} {E : g_E} (h0 : Nat) (h1 : Nat) (h2 : Nat) (h3 : Nat) (o0 o1 o2 o3 o4 o5 o6 o7 o8 o9 o10 o11 o12 o13 o14 o15 o16 o17 o18 o19 o20 o21 o22 o23 o24 : Value) (v_z_dots : Int32) (v_z_cool : Int32) (v_z_low : Int32) (v_z_high : Int32) (v_z_ghost : Int32) (v_z_dead : Int32) (v_now : Nat → Int32) (v_trial : Nat → Int32) (v_pulses : Nat → Int32) {K : Int32 → (Nat → Int32) → (Nat → Int32) → Prop} (h : P_X8_restNow v_z_dots v_z_cool v_z_low v_z_high v_z_ghost v_z_dead v_now v_trial v_pulses K) : g_CI l E yX8_restNow cX8_restNow 3 .int (g_Rm 3 69) [.ref h0] (W_X8_restNow E h0 h1 h2 h3 o0 o1 o2 o3 o4 o5 o6 o7 o8 o9 o10 o11 o12 o13 o14 o15 o16 o17 o18 o19 o20 o21 o22 o23 o24 v_z_dots v_z_cool v_z_low v_z_high v_z_ghost v_z_dead v_now v_trial v_pulses) (fun r (u : (Nat → Int32) × (Nat → Int32)) => K r u.1 u.2) (fun (u : (Nat → Int32) × (Nat → Int32)) => (W_X8_restNow E h0 h1 h2 h3 o0 o1 o2 o3 o4 o5 o6 o7 o8 o9 o10 o11 o12 o13 o14 o15 o16 o17 o18 o19 o20 o21 o22 o23 o24 v_z_dots v_z_cool v_z_low v_z_high v_z_ghost v_z_dead v_now u.1 u.2)) := by
  refine g_entI RX8 (by decide) rfl (Nat.le_of_ble_eq_true rfl) ?_
  intro Γ X hE hl ret
  subst hE
  subst hl
  unfold P_X8_restNow at h
  show g_G Γ (g_Rm 3 69) 3 0 [(0, .ref h0)] [] (W_X8_restNow (g_env Γ) h0 h1 h2 h3 o0 o1 o2 o3 o4 o5 o6 o7 o8 o9 o10 o11 o12 o13 o14 o15 o16 o17 o18 o19 o20 o21 o22 o23 o24 v_z_dots v_z_cool v_z_low v_z_high v_z_ghost v_z_dead v_now v_trial v_pulses)
  refine g_iconst 0 X (0 : Int32) dX8_restNow_0 k_ic_0 ?_
  refine g_istore_n 1 X [(1, .int (0 : Int32)), (0, .ref h0)] dX8_restNow_1 rfl (Nat.le_of_ble_eq_true rfl) rfl ?_
  obtain ⟨n22, h⟩ := h
  refine g_sub [(0, .ref h0), (1, .int (0 : Int32))] [1, 0] rfl ?_
  refine l_X8_restNow_2 X h0 h1 h2 h3 o0 o1 o2 o3 o4 o5 o6 o7 o8 o9 o10 o11 o12 o13 o14 o15 o16 o17 o18 o19 o20 o21 o22 o23 o24 v_z_dots v_z_cool v_z_low v_z_high v_z_ghost v_z_dead v_now (fun x17 v_trial_18 v_pulses_19 h => ?_) (fun v_trial_20 v_pulses_21 h => ?_) n22 (0 : Int32) v_trial v_pulses h
  · refine g_iload_n 99 X dX8_restNow_99 0 rfl rfl ?_
    exact ret 100 _ _ (v_trial_18, v_pulses_19) dX8_restNow_100 (vp_nar_int _) h
  · refine g_bipush 107 X (-9 : Int32) dX8_restNow_107 k_bp_m9 ?_
    exact ret 109 _ _ (v_trial_20, v_pulses_21) dX8_restNow_109 (vp_nar_int _) h

def W_X8_counted (E : g_E) (h0 : Nat) (h1 : Nat) (o0 o1 o2 o3 o4 o5 o6 o7 o8 o9 o10 o11 o12 o13 o14 o15 o16 o17 o18 o19 o20 o21 o22 o23 o24 o25 o26 o27 o28 o29 o30 o31 o32 : Value) (v_now : Nat → Int32) : va_W := [(h0, .inr (8, [o0, o1, o2, o3, o4, o5, o6, o7, .ref h1, o8, o9, o10, o11, o12, o13, o14, o15, o16, o17, o18, o19, o20, o21, o22, o23, o24, o25, o26, o27, o28, o29, o30, o31, o32])), (h1, .inl (E.2.1, 30, .inl v_now))]
def P_X8_counted (b1 : Int32) (v_now : Nat → Int32) (K : Int32 → Prop) : Prop := (((b1.toInt < 6 ∨ 6 + (4 : Nat) ≤ b1.toInt) → (vp_in (((25 : Int32) + b1) - (10 : Int32)) 30 ∧ K (v_now (Int32.toNatClampNeg (((25 : Int32) + b1) - (10 : Int32)))))) ∧ (b1 = (6 : Int32) → K (v_now (Int32.toNatClampNeg (21 : Int32)))) ∧ (b1 = (7 : Int32) → K (v_now (Int32.toNatClampNeg (22 : Int32)))) ∧ (b1 = (8 : Int32) → K (v_now (Int32.toNatClampNeg (23 : Int32)))) ∧ (b1 = (9 : Int32) → K (v_now (Int32.toNatClampNeg (24 : Int32)))))
set_option maxHeartbeats 4000000 in
set_option maxRecDepth 100000 in
theorem c_X8_counted {l : Launch} {E : g_E} (h0 : Nat) (h1 : Nat) (o0 o1 o2 o3 o4 o5 o6 o7 o8 o9 o10 o11 o12 o13 o14 o15 o16 o17 o18 o19 o20 o21 o22 o23 o24 o25 o26 o27 o28 o29 o30 o31 o32 : Value) (v_now : Nat → Int32) (b1 : Int32) {K : Int32 → Prop} (h : P_X8_counted b1 v_now K) : g_CI l E yX8_counted cX8_counted 2 .int (g_Rm 0 0) [.ref h0, .int b1] (W_X8_counted E h0 h1 o0 o1 o2 o3 o4 o5 o6 o7 o8 o9 o10 o11 o12 o13 o14 o15 o16 o17 o18 o19 o20 o21 o22 o23 o24 o25 o26 o27 o28 o29 o30 o31 o32 v_now) (fun r (u : Unit) => K r) (fun (u : Unit) => (W_X8_counted E h0 h1 o0 o1 o2 o3 o4 o5 o6 o7 o8 o9 o10 o11 o12 o13 o14 o15 o16 o17 o18 o19 o20 o21 o22 o23 o24 o25 o26 o27 o28 o29 o30 o31 o32 v_now)) := by
  refine g_entI RX8 (by decide) rfl (Nat.le_of_ble_eq_true rfl) ?_
  intro Γ X hE hl ret
  subst hE
  subst hl
  unfold P_X8_counted at h
  show g_G Γ (g_Rm 0 0) 2 0 [(0, .ref h0), (1, .int b1)] [] (W_X8_counted (g_env Γ) h0 h1 o0 o1 o2 o3 o4 o5 o6 o7 o8 o9 o10 o11 o12 o13 o14 o15 o16 o17 o18 o19 o20 o21 o22 o23 o24 o25 o26 o27 o28 o29 o30 o31 o32 v_now)
  refine g_iload_n 0 X dX8_counted_0 1 rfl rfl ?_
  rcases sw_split b1 6 4 with c | ⟨k, hk, c⟩
  · refine g_tableOut 1 X 64 dX8_counted_1 (c.elim Or.inl (fun c => Or.inr (by omega))) (by decide) ?_
    replace h := h.1 c
    refine g_aload_n 64 X dX8_counted_64 0 rfl rfl ?_
    refine g_get 65 X fa_X8_13 dX8_counted_65 0 rfl rfl ?_
    refine g_bipush 68 X (25 : Int32) dX8_counted_68 k_bp_25 ?_
    refine g_iload_n 70 X dX8_counted_70 1 rfl rfl ?_
    refine g_iadd 71 X dX8_counted_71 ?_
    refine g_bipush 72 X (10 : Int32) dX8_counted_72 k_bp_10 ?_
    refine g_isub 74 X dX8_counted_74 ?_
    have f1 := h.1; replace h := h.2
    refine g_iald 75 X dX8_counted_75 1 rfl rfl f1 ?_
    exact ret 76 _ _ () dX8_counted_76 (vp_nar_int _) h
  · match k, hk, c with
    | 0, _, c =>
      replace c : b1 = (6 : Int32) := c.trans (by decide)
      refine g_tableIn 1 X 31 32 dX8_counted_1 (by rw [c]; decide) (by rw [c]; decide) (by rw [c]; decide) (by decide) ?_
      replace h := h.2.1 c
      refine g_aload_n 32 X dX8_counted_32 0 rfl rfl ?_
      refine g_get 33 X fa_X8_13 dX8_counted_33 0 rfl rfl ?_
      refine g_bipush 36 X (21 : Int32) dX8_counted_36 k_bp_21 ?_
      refine g_iald 38 X dX8_counted_38 1 rfl rfl (vp_lit (by decide)) ?_
      exact ret 39 _ _ () dX8_counted_39 (vp_nar_int _) h
    | 1, _, c =>
      replace c : b1 = (7 : Int32) := c.trans (by decide)
      refine g_tableIn 1 X 39 40 dX8_counted_1 (by rw [c]; decide) (by rw [c]; decide) (by rw [c]; decide) (by decide) ?_
      replace h := h.2.2.1 c
      refine g_aload_n 40 X dX8_counted_40 0 rfl rfl ?_
      refine g_get 41 X fa_X8_13 dX8_counted_41 0 rfl rfl ?_
      refine g_bipush 44 X (22 : Int32) dX8_counted_44 k_bp_22 ?_
      refine g_iald 46 X dX8_counted_46 1 rfl rfl (vp_lit (by decide)) ?_
      exact ret 47 _ _ () dX8_counted_47 (vp_nar_int _) h
    | 2, _, c =>
      replace c : b1 = (8 : Int32) := c.trans (by decide)
      refine g_tableIn 1 X 47 48 dX8_counted_1 (by rw [c]; decide) (by rw [c]; decide) (by rw [c]; decide) (by decide) ?_
      replace h := h.2.2.2.1 c
      refine g_aload_n 48 X dX8_counted_48 0 rfl rfl ?_
      refine g_get 49 X fa_X8_13 dX8_counted_49 0 rfl rfl ?_
      refine g_bipush 52 X (23 : Int32) dX8_counted_52 k_bp_23 ?_
      refine g_iald 54 X dX8_counted_54 1 rfl rfl (vp_lit (by decide)) ?_
      exact ret 55 _ _ () dX8_counted_55 (vp_nar_int _) h
    | 3, _, c =>
      replace c : b1 = (9 : Int32) := c.trans (by decide)
      refine g_tableIn 1 X 55 56 dX8_counted_1 (by rw [c]; decide) (by rw [c]; decide) (by rw [c]; decide) (by decide) ?_
      replace h := h.2.2.2.2 c
      refine g_aload_n 56 X dX8_counted_56 0 rfl rfl ?_
      refine g_get 57 X fa_X8_13 dX8_counted_57 0 rfl rfl ?_
      refine g_bipush 60 X (24 : Int32) dX8_counted_60 k_bp_24 ?_
      refine g_iald 62 X dX8_counted_62 1 rfl rfl (vp_lit (by decide)) ?_
      exact ret 63 _ _ () dX8_counted_63 (vp_nar_int _) h
    | k + 4, hk, _ => exact absurd hk (by omega)

def W_X8_about (E : g_E) (h0 : Nat) (h1 : Nat) (h2 : Nat) (h3 : Nat) (h4 : Nat) (h5 : Nat) (o0 o1 o2 o3 o4 o5 o6 o7 o8 o9 o10 o11 o12 o13 o14 o15 o16 o17 o18 : Value) (v_z_length : Int32) (v_z_dots : Int32) (v_z_cool : Int32) (v_z_power : Int32) (v_z_low : Int32) (v_z_high : Int32) (v_z_ghost : Int32) (v_z_acts : Int32) (v_z_seen : Int32) (v_z_dead : Int32) (v_now : Nat → Int32) (v_trial : Nat → Int32) (v_pulses : Nat → Int32) (v_most : Nat → Int32) (v_speed : Nat → Int32) : va_W := [(h0, .inr (8, [o0, .int v_z_length, .int v_z_dots, .int v_z_cool, .int v_z_power, .int v_z_low, .int v_z_high, .int v_z_ghost, .ref h1, .ref h2, o1, .int v_z_acts, o2, o3, o4, o5, o6, o7, .int v_z_seen, o8, .int v_z_dead, .ref h3, .ref h4, .ref h5, o9, o10, o11, o12, o13, o14, o15, o16, o17, o18])), (h1, .inl (E.2.1, 30, .inl v_now)), (h2, .inl (E.2.1, 30, .inl v_trial)), (h3, .inl (E.2.1, 8, .inl v_pulses)), (h4, .inl (E.2.1, 8, .inl v_most)), (h5, .inl (E.2.1, 8, .inl v_speed))]
def P_X8_about (b1 : Int32) (v_z_length : Int32) (v_z_dots : Int32) (v_z_cool : Int32) (v_z_power : Int32) (v_z_low : Int32) (v_z_high : Int32) (v_z_ghost : Int32) (v_z_acts : Int32) (v_z_seen : Int32) (v_z_dead : Int32) (v_now : Nat → Int32) (v_trial : Nat → Int32) (v_pulses : Nat → Int32) (v_most : Nat → Int32) (v_speed : Nat → Int32) (K : Int32 → (Nat → Int32) → (Nat → Int32) → (Nat → Int32) → (Nat → Int32) → Prop) : Prop := (((b1.toInt < 0 ∨ 0 + (20 : Nat) ≤ b1.toInt) → (P_X8_in (Int32.toInt64 b1) (6 : Int64) (14 : Int64) (fun r1 => ((r1 = (0 : Int32) → K (-2 : Int32) v_trial v_pulses v_most v_speed) ∧ (¬ r1 = (0 : Int32) → (P_X8_counted b1 v_now (fun r2 => K r2 v_trial v_pulses v_most v_speed))))))) ∧ (b1 = (0 : Int32) → K v_z_dots v_trial v_pulses v_most v_speed) ∧ (b1 = (1 : Int32) → K v_z_cool v_trial v_pulses v_most v_speed) ∧ (b1 = (2 : Int32) → K v_z_power v_trial v_pulses v_most v_speed) ∧ (b1 = (3 : Int32) → K v_z_low v_trial v_pulses v_most v_speed) ∧ (b1 = (4 : Int32) → K v_z_high v_trial v_pulses v_most v_speed) ∧ (b1 = (5 : Int32) → K v_z_ghost v_trial v_pulses v_most v_speed) ∧ (b1 = (6 : Int32) → (P_X8_in (Int32.toInt64 b1) (6 : Int64) (14 : Int64) (fun r3 => ((r3 = (0 : Int32) → K (-2 : Int32) v_trial v_pulses v_most v_speed) ∧ (¬ r3 = (0 : Int32) → (P_X8_counted b1 v_now (fun r4 => K r4 v_trial v_pulses v_most v_speed))))))) ∧ (b1 = (7 : Int32) → (P_X8_in (Int32.toInt64 b1) (6 : Int64) (14 : Int64) (fun r5 => ((r5 = (0 : Int32) → K (-2 : Int32) v_trial v_pulses v_most v_speed) ∧ (¬ r5 = (0 : Int32) → (P_X8_counted b1 v_now (fun r6 => K r6 v_trial v_pulses v_most v_speed))))))) ∧ (b1 = (8 : Int32) → (P_X8_in (Int32.toInt64 b1) (6 : Int64) (14 : Int64) (fun r7 => ((r7 = (0 : Int32) → K (-2 : Int32) v_trial v_pulses v_most v_speed) ∧ (¬ r7 = (0 : Int32) → (P_X8_counted b1 v_now (fun r8 => K r8 v_trial v_pulses v_most v_speed))))))) ∧ (b1 = (9 : Int32) → (P_X8_in (Int32.toInt64 b1) (6 : Int64) (14 : Int64) (fun r9 => ((r9 = (0 : Int32) → K (-2 : Int32) v_trial v_pulses v_most v_speed) ∧ (¬ r9 = (0 : Int32) → (P_X8_counted b1 v_now (fun r10 => K r10 v_trial v_pulses v_most v_speed))))))) ∧ (b1 = (10 : Int32) → (P_X8_in (Int32.toInt64 b1) (6 : Int64) (14 : Int64) (fun r11 => ((r11 = (0 : Int32) → K (-2 : Int32) v_trial v_pulses v_most v_speed) ∧ (¬ r11 = (0 : Int32) → (P_X8_counted b1 v_now (fun r12 => K r12 v_trial v_pulses v_most v_speed))))))) ∧ (b1 = (11 : Int32) → (P_X8_in (Int32.toInt64 b1) (6 : Int64) (14 : Int64) (fun r13 => ((r13 = (0 : Int32) → K (-2 : Int32) v_trial v_pulses v_most v_speed) ∧ (¬ r13 = (0 : Int32) → (P_X8_counted b1 v_now (fun r14 => K r14 v_trial v_pulses v_most v_speed))))))) ∧ (b1 = (12 : Int32) → (P_X8_in (Int32.toInt64 b1) (6 : Int64) (14 : Int64) (fun r15 => ((r15 = (0 : Int32) → K (-2 : Int32) v_trial v_pulses v_most v_speed) ∧ (¬ r15 = (0 : Int32) → (P_X8_counted b1 v_now (fun r16 => K r16 v_trial v_pulses v_most v_speed))))))) ∧ (b1 = (13 : Int32) → (P_X8_in (Int32.toInt64 b1) (6 : Int64) (14 : Int64) (fun r17 => ((r17 = (0 : Int32) → K (-2 : Int32) v_trial v_pulses v_most v_speed) ∧ (¬ r17 = (0 : Int32) → (P_X8_counted b1 v_now (fun r18 => K r18 v_trial v_pulses v_most v_speed))))))) ∧ (b1 = (14 : Int32) → (P_X8_in (Int32.toInt64 b1) (6 : Int64) (14 : Int64) (fun r19 => ((r19 = (0 : Int32) → K (-2 : Int32) v_trial v_pulses v_most v_speed) ∧ (¬ r19 = (0 : Int32) → (P_X8_counted b1 v_now (fun r20 => K r20 v_trial v_pulses v_most v_speed))))))) ∧ (b1 = (15 : Int32) → (P_X8_ticks v_z_dots v_z_power v_now v_pulses v_most v_speed (fun r21 v_pulses_22 v_most_23 v_speed_24 => K r21 v_trial v_pulses_22 v_most_23 v_speed_24))) ∧ (b1 = (16 : Int32) → (P_X8_restNow v_z_dots v_z_cool v_z_low v_z_high v_z_ghost v_z_dead v_now v_trial v_pulses (fun r25 v_trial_26 v_pulses_27 => K r25 v_trial_26 v_pulses_27 v_most v_speed))) ∧ (b1 = (17 : Int32) → K v_z_acts v_trial v_pulses v_most v_speed) ∧ (b1 = (18 : Int32) → K v_z_seen v_trial v_pulses v_most v_speed) ∧ (b1 = (19 : Int32) → K v_z_length v_trial v_pulses v_most v_speed))
set_option maxHeartbeats 4000000 in
set_option maxRecDepth 100000 in
theorem c_X8_about {l : Launch} {E : g_E} (h0 : Nat) (h1 : Nat) (h2 : Nat) (h3 : Nat) (h4 : Nat) (h5 : Nat) (o0 o1 o2 o3 o4 o5 o6 o7 o8 o9 o10 o11 o12 o13 o14 o15 o16 o17 o18 : Value) (v_z_length : Int32) (v_z_dots : Int32) (v_z_cool : Int32) (v_z_power : Int32) (v_z_low : Int32) (v_z_high : Int32) (v_z_ghost : Int32) (v_z_acts : Int32) (v_z_seen : Int32) (v_z_dead : Int32) (v_now : Nat → Int32) (v_trial : Nat → Int32) (v_pulses : Nat → Int32) (v_most : Nat → Int32) (v_speed : Nat → Int32) (b1 : Int32) {K : Int32 → (Nat → Int32) → (Nat → Int32) → (Nat → Int32) → (Nat → Int32) → Prop} (h : P_X8_about b1 v_z_length v_z_dots v_z_cool v_z_power v_z_low v_z_high v_z_ghost v_z_acts v_z_seen v_z_dead v_now v_trial v_pulses v_most v_speed K) : g_CI l E yX8_about cX8_about 2 .int (g_Rm 6 137) [.ref h0, .int b1] (W_X8_about E h0 h1 h2 h3 h4 h5 o0 o1 o2 o3 o4 o5 o6 o7 o8 o9 o10 o11 o12 o13 o14 o15 o16 o17 o18 v_z_length v_z_dots v_z_cool v_z_power v_z_low v_z_high v_z_ghost v_z_acts v_z_seen v_z_dead v_now v_trial v_pulses v_most v_speed) (fun r (u : (Nat → Int32) × (Nat → Int32) × (Nat → Int32) × (Nat → Int32)) => K r u.1 u.2.1 u.2.2.1 u.2.2.2) (fun (u : (Nat → Int32) × (Nat → Int32) × (Nat → Int32) × (Nat → Int32)) => (W_X8_about E h0 h1 h2 h3 h4 h5 o0 o1 o2 o3 o4 o5 o6 o7 o8 o9 o10 o11 o12 o13 o14 o15 o16 o17 o18 v_z_length v_z_dots v_z_cool v_z_power v_z_low v_z_high v_z_ghost v_z_acts v_z_seen v_z_dead v_now u.1 u.2.1 u.2.2.1 u.2.2.2)) := by
  refine g_entI RX8 (by decide) rfl (Nat.le_of_ble_eq_true rfl) ?_
  intro Γ X hE hl ret
  subst hE
  subst hl
  unfold P_X8_about at h
  show g_G Γ (g_Rm 6 137) 2 0 [(0, .ref h0), (1, .int b1)] [] (W_X8_about (g_env Γ) h0 h1 h2 h3 h4 h5 o0 o1 o2 o3 o4 o5 o6 o7 o8 o9 o10 o11 o12 o13 o14 o15 o16 o17 o18 v_z_length v_z_dots v_z_cool v_z_power v_z_low v_z_high v_z_ghost v_z_acts v_z_seen v_z_dead v_now v_trial v_pulses v_most v_speed)
  refine g_iload_n 0 X dX8_about_0 1 rfl rfl ?_
  rcases sw_split b1 0 20 with c | ⟨k, hk, c⟩
  · refine g_tableOut 1 X 151 dX8_about_1 (c.elim Or.inl (fun c => Or.inr (by omega))) (by decide) ?_
    replace h := h.1 c
    refine g_iload_n 151 X dX8_about_151 1 rfl rfl ?_
    refine g_i2l 152 X dX8_about_152 ?_
    refine g_ldc2 153 X dX8_about_153 kc_X8_181 ?_
    refine g_ldc2 156 X dX8_about_156 kc_X8_183 ?_
    refine g_cSI 159 X (st := []) mv_X8_69 dX8_about_159 [.long (Int32.toInt64 b1), .long (6 : Int64), .long (14 : Int64)] (c_X8_in (Int32.toInt64 b1) (6 : Int64) (14 : Int64) h) [] (fun u : Unit => (W_X8_about (g_env Γ) h0 h1 h2 h3 h4 h5 o0 o1 o2 o3 o4 o5 o6 o7 o8 o9 o10 o11 o12 o13 o14 o15 o16 o17 o18 v_z_length v_z_dots v_z_cool v_z_power v_z_low v_z_high v_z_ghost v_z_acts v_z_seen v_z_dead v_now v_trial v_pulses v_most v_speed)) rfl ⟨(Nat.le_of_ble_eq_true rfl), (Nat.le_of_ble_eq_true rfl)⟩ ⟨rfl, rfl⟩ (Nat.le_of_ble_eq_true rfl) rfl (by decide) (fun _ => rfl) (fun _ => rfl) (fun r1 u h => ?_)
    refine g_if_eq 162 X 173 dX8_about_162 (by decide) (fun c => ?_) (fun c => ?_)
    · replace h := h.1 c
      refine g_bipush 173 X (-2 : Int32) dX8_about_173 k_bp_m2 ?_
      exact ret 175 _ _ (v_trial, v_pulses, v_most, v_speed) dX8_about_175 (vp_nar_int _) h
    · replace h := h.2 c
      refine g_aload_n 165 X dX8_about_165 0 rfl rfl ?_
      refine g_iload_n 166 X dX8_about_166 1 rfl rfl ?_
      refine g_cVI 167 X (st := []) mv_X8_185 dX8_about_167 h0 8 [.int b1] (c_X8_counted h0 h1 o0 (.int v_z_length) (.int v_z_dots) (.int v_z_cool) (.int v_z_power) (.int v_z_low) (.int v_z_high) (.int v_z_ghost) (.ref h2) o1 (.int v_z_acts) o2 o3 o4 o5 o6 o7 (.int v_z_seen) o8 (.int v_z_dead) (.ref h3) (.ref h4) (.ref h5) o9 o10 o11 o12 o13 o14 o15 o16 o17 o18 v_now b1 h) [0, 1] (fun u : Unit => (W_X8_about (g_env Γ) h0 h1 h2 h3 h4 h5 o0 o1 o2 o3 o4 o5 o6 o7 o8 o9 o10 o11 o12 o13 o14 o15 o16 o17 o18 v_z_length v_z_dots v_z_cool v_z_power v_z_low v_z_high v_z_ghost v_z_acts v_z_seen v_z_dead v_now v_trial v_pulses v_most v_speed)) rfl ⟨(Nat.le_of_ble_eq_true rfl), (Nat.le_of_ble_eq_true rfl)⟩ ⟨rfl, rfl⟩ (Nat.le_of_ble_eq_true rfl) rfl rfl rfl (by decide) (fun _ => rfl) (fun _ => rfl) (fun r2 u h => ?_)
      refine g_goto 170 X 175 dX8_about_170 (by decide) ?_
      exact ret 175 _ _ (v_trial, v_pulses, v_most, v_speed) dX8_about_175 (vp_nar_int _) h
  · match k, hk, c with
    | 0, _, c =>
      replace c : b1 = (0 : Int32) := c.trans (by decide)
      refine g_tableIn 1 X 95 96 dX8_about_1 (by rw [c]; decide) (by rw [c]; decide) (by rw [c]; decide) (by decide) ?_
      replace h := h.2.1 c
      refine g_aload_n 96 X dX8_about_96 0 rfl rfl ?_
      refine g_get 97 X fa_X8_59 dX8_about_97 0 rfl rfl ?_
      exact ret 100 _ _ (v_trial, v_pulses, v_most, v_speed) dX8_about_100 (vp_nar_int _) h
    | 1, _, c =>
      replace c : b1 = (1 : Int32) := c.trans (by decide)
      refine g_tableIn 1 X 100 101 dX8_about_1 (by rw [c]; decide) (by rw [c]; decide) (by rw [c]; decide) (by decide) ?_
      replace h := h.2.2.1 c
      refine g_aload_n 101 X dX8_about_101 0 rfl rfl ?_
      refine g_get 102 X fa_X8_63 dX8_about_102 0 rfl rfl ?_
      exact ret 105 _ _ (v_trial, v_pulses, v_most, v_speed) dX8_about_105 (vp_nar_int _) h
    | 2, _, c =>
      replace c : b1 = (2 : Int32) := c.trans (by decide)
      refine g_tableIn 1 X 105 106 dX8_about_1 (by rw [c]; decide) (by rw [c]; decide) (by rw [c]; decide) (by decide) ?_
      replace h := h.2.2.2.1 c
      refine g_aload_n 106 X dX8_about_106 0 rfl rfl ?_
      refine g_get 107 X fa_X8_66 dX8_about_107 0 rfl rfl ?_
      exact ret 110 _ _ (v_trial, v_pulses, v_most, v_speed) dX8_about_110 (vp_nar_int _) h
    | 3, _, c =>
      replace c : b1 = (3 : Int32) := c.trans (by decide)
      refine g_tableIn 1 X 110 111 dX8_about_1 (by rw [c]; decide) (by rw [c]; decide) (by rw [c]; decide) (by decide) ?_
      replace h := h.2.2.2.2.1 c
      refine g_aload_n 111 X dX8_about_111 0 rfl rfl ?_
      refine g_get 112 X fa_X8_111 dX8_about_112 0 rfl rfl ?_
      exact ret 115 _ _ (v_trial, v_pulses, v_most, v_speed) dX8_about_115 (vp_nar_int _) h
    | 4, _, c =>
      replace c : b1 = (4 : Int32) := c.trans (by decide)
      refine g_tableIn 1 X 115 116 dX8_about_1 (by rw [c]; decide) (by rw [c]; decide) (by rw [c]; decide) (by decide) ?_
      replace h := h.2.2.2.2.2.1 c
      refine g_aload_n 116 X dX8_about_116 0 rfl rfl ?_
      refine g_get 117 X fa_X8_114 dX8_about_117 0 rfl rfl ?_
      exact ret 120 _ _ (v_trial, v_pulses, v_most, v_speed) dX8_about_120 (vp_nar_int _) h
    | 5, _, c =>
      replace c : b1 = (5 : Int32) := c.trans (by decide)
      refine g_tableIn 1 X 120 121 dX8_about_1 (by rw [c]; decide) (by rw [c]; decide) (by rw [c]; decide) (by decide) ?_
      replace h := h.2.2.2.2.2.2.1 c
      refine g_aload_n 121 X dX8_about_121 0 rfl rfl ?_
      refine g_get 122 X fa_X8_117 dX8_about_122 0 rfl rfl ?_
      exact ret 125 _ _ (v_trial, v_pulses, v_most, v_speed) dX8_about_125 (vp_nar_int _) h
    | 6, _, c =>
      replace c : b1 = (6 : Int32) := c.trans (by decide)
      refine g_tableIn 1 X 150 151 dX8_about_1 (by rw [c]; decide) (by rw [c]; decide) (by rw [c]; decide) (by decide) ?_
      replace h := h.2.2.2.2.2.2.2.1 c
      refine g_iload_n 151 X dX8_about_151 1 rfl rfl ?_
      refine g_i2l 152 X dX8_about_152 ?_
      refine g_ldc2 153 X dX8_about_153 kc_X8_181 ?_
      refine g_ldc2 156 X dX8_about_156 kc_X8_183 ?_
      refine g_cSI 159 X (st := []) mv_X8_69 dX8_about_159 [.long (Int32.toInt64 b1), .long (6 : Int64), .long (14 : Int64)] (c_X8_in (Int32.toInt64 b1) (6 : Int64) (14 : Int64) h) [] (fun u : Unit => (W_X8_about (g_env Γ) h0 h1 h2 h3 h4 h5 o0 o1 o2 o3 o4 o5 o6 o7 o8 o9 o10 o11 o12 o13 o14 o15 o16 o17 o18 v_z_length v_z_dots v_z_cool v_z_power v_z_low v_z_high v_z_ghost v_z_acts v_z_seen v_z_dead v_now v_trial v_pulses v_most v_speed)) rfl ⟨(Nat.le_of_ble_eq_true rfl), (Nat.le_of_ble_eq_true rfl)⟩ ⟨rfl, rfl⟩ (Nat.le_of_ble_eq_true rfl) rfl (by decide) (fun _ => rfl) (fun _ => rfl) (fun r3 u h => ?_)
      refine g_if_eq 162 X 173 dX8_about_162 (by decide) (fun c => ?_) (fun c => ?_)
      · replace h := h.1 c
        refine g_bipush 173 X (-2 : Int32) dX8_about_173 k_bp_m2 ?_
        exact ret 175 _ _ (v_trial, v_pulses, v_most, v_speed) dX8_about_175 (vp_nar_int _) h
      · replace h := h.2 c
        refine g_aload_n 165 X dX8_about_165 0 rfl rfl ?_
        refine g_iload_n 166 X dX8_about_166 1 rfl rfl ?_
        refine g_cVI 167 X (st := []) mv_X8_185 dX8_about_167 h0 8 [.int b1] (c_X8_counted h0 h1 o0 (.int v_z_length) (.int v_z_dots) (.int v_z_cool) (.int v_z_power) (.int v_z_low) (.int v_z_high) (.int v_z_ghost) (.ref h2) o1 (.int v_z_acts) o2 o3 o4 o5 o6 o7 (.int v_z_seen) o8 (.int v_z_dead) (.ref h3) (.ref h4) (.ref h5) o9 o10 o11 o12 o13 o14 o15 o16 o17 o18 v_now b1 h) [0, 1] (fun u : Unit => (W_X8_about (g_env Γ) h0 h1 h2 h3 h4 h5 o0 o1 o2 o3 o4 o5 o6 o7 o8 o9 o10 o11 o12 o13 o14 o15 o16 o17 o18 v_z_length v_z_dots v_z_cool v_z_power v_z_low v_z_high v_z_ghost v_z_acts v_z_seen v_z_dead v_now v_trial v_pulses v_most v_speed)) rfl ⟨(Nat.le_of_ble_eq_true rfl), (Nat.le_of_ble_eq_true rfl)⟩ ⟨rfl, rfl⟩ (Nat.le_of_ble_eq_true rfl) rfl rfl rfl (by decide) (fun _ => rfl) (fun _ => rfl) (fun r4 u h => ?_)
        refine g_goto 170 X 175 dX8_about_170 (by decide) ?_
        exact ret 175 _ _ (v_trial, v_pulses, v_most, v_speed) dX8_about_175 (vp_nar_int _) h
    | 7, _, c =>
      replace c : b1 = (7 : Int32) := c.trans (by decide)
      refine g_tableIn 1 X 150 151 dX8_about_1 (by rw [c]; decide) (by rw [c]; decide) (by rw [c]; decide) (by decide) ?_
      replace h := h.2.2.2.2.2.2.2.2.1 c
      refine g_iload_n 151 X dX8_about_151 1 rfl rfl ?_
      refine g_i2l 152 X dX8_about_152 ?_
      refine g_ldc2 153 X dX8_about_153 kc_X8_181 ?_
      refine g_ldc2 156 X dX8_about_156 kc_X8_183 ?_
      refine g_cSI 159 X (st := []) mv_X8_69 dX8_about_159 [.long (Int32.toInt64 b1), .long (6 : Int64), .long (14 : Int64)] (c_X8_in (Int32.toInt64 b1) (6 : Int64) (14 : Int64) h) [] (fun u : Unit => (W_X8_about (g_env Γ) h0 h1 h2 h3 h4 h5 o0 o1 o2 o3 o4 o5 o6 o7 o8 o9 o10 o11 o12 o13 o14 o15 o16 o17 o18 v_z_length v_z_dots v_z_cool v_z_power v_z_low v_z_high v_z_ghost v_z_acts v_z_seen v_z_dead v_now v_trial v_pulses v_most v_speed)) rfl ⟨(Nat.le_of_ble_eq_true rfl), (Nat.le_of_ble_eq_true rfl)⟩ ⟨rfl, rfl⟩ (Nat.le_of_ble_eq_true rfl) rfl (by decide) (fun _ => rfl) (fun _ => rfl) (fun r5 u h => ?_)
      refine g_if_eq 162 X 173 dX8_about_162 (by decide) (fun c => ?_) (fun c => ?_)
      · replace h := h.1 c
        refine g_bipush 173 X (-2 : Int32) dX8_about_173 k_bp_m2 ?_
        exact ret 175 _ _ (v_trial, v_pulses, v_most, v_speed) dX8_about_175 (vp_nar_int _) h
      · replace h := h.2 c
        refine g_aload_n 165 X dX8_about_165 0 rfl rfl ?_
        refine g_iload_n 166 X dX8_about_166 1 rfl rfl ?_
        refine g_cVI 167 X (st := []) mv_X8_185 dX8_about_167 h0 8 [.int b1] (c_X8_counted h0 h1 o0 (.int v_z_length) (.int v_z_dots) (.int v_z_cool) (.int v_z_power) (.int v_z_low) (.int v_z_high) (.int v_z_ghost) (.ref h2) o1 (.int v_z_acts) o2 o3 o4 o5 o6 o7 (.int v_z_seen) o8 (.int v_z_dead) (.ref h3) (.ref h4) (.ref h5) o9 o10 o11 o12 o13 o14 o15 o16 o17 o18 v_now b1 h) [0, 1] (fun u : Unit => (W_X8_about (g_env Γ) h0 h1 h2 h3 h4 h5 o0 o1 o2 o3 o4 o5 o6 o7 o8 o9 o10 o11 o12 o13 o14 o15 o16 o17 o18 v_z_length v_z_dots v_z_cool v_z_power v_z_low v_z_high v_z_ghost v_z_acts v_z_seen v_z_dead v_now v_trial v_pulses v_most v_speed)) rfl ⟨(Nat.le_of_ble_eq_true rfl), (Nat.le_of_ble_eq_true rfl)⟩ ⟨rfl, rfl⟩ (Nat.le_of_ble_eq_true rfl) rfl rfl rfl (by decide) (fun _ => rfl) (fun _ => rfl) (fun r6 u h => ?_)
        refine g_goto 170 X 175 dX8_about_170 (by decide) ?_
        exact ret 175 _ _ (v_trial, v_pulses, v_most, v_speed) dX8_about_175 (vp_nar_int _) h
    | 8, _, c =>
      replace c : b1 = (8 : Int32) := c.trans (by decide)
      refine g_tableIn 1 X 150 151 dX8_about_1 (by rw [c]; decide) (by rw [c]; decide) (by rw [c]; decide) (by decide) ?_
      replace h := h.2.2.2.2.2.2.2.2.2.1 c
      refine g_iload_n 151 X dX8_about_151 1 rfl rfl ?_
      refine g_i2l 152 X dX8_about_152 ?_
      refine g_ldc2 153 X dX8_about_153 kc_X8_181 ?_
      refine g_ldc2 156 X dX8_about_156 kc_X8_183 ?_
      refine g_cSI 159 X (st := []) mv_X8_69 dX8_about_159 [.long (Int32.toInt64 b1), .long (6 : Int64), .long (14 : Int64)] (c_X8_in (Int32.toInt64 b1) (6 : Int64) (14 : Int64) h) [] (fun u : Unit => (W_X8_about (g_env Γ) h0 h1 h2 h3 h4 h5 o0 o1 o2 o3 o4 o5 o6 o7 o8 o9 o10 o11 o12 o13 o14 o15 o16 o17 o18 v_z_length v_z_dots v_z_cool v_z_power v_z_low v_z_high v_z_ghost v_z_acts v_z_seen v_z_dead v_now v_trial v_pulses v_most v_speed)) rfl ⟨(Nat.le_of_ble_eq_true rfl), (Nat.le_of_ble_eq_true rfl)⟩ ⟨rfl, rfl⟩ (Nat.le_of_ble_eq_true rfl) rfl (by decide) (fun _ => rfl) (fun _ => rfl) (fun r7 u h => ?_)
      refine g_if_eq 162 X 173 dX8_about_162 (by decide) (fun c => ?_) (fun c => ?_)
      · replace h := h.1 c
        refine g_bipush 173 X (-2 : Int32) dX8_about_173 k_bp_m2 ?_
        exact ret 175 _ _ (v_trial, v_pulses, v_most, v_speed) dX8_about_175 (vp_nar_int _) h
      · replace h := h.2 c
        refine g_aload_n 165 X dX8_about_165 0 rfl rfl ?_
        refine g_iload_n 166 X dX8_about_166 1 rfl rfl ?_
        refine g_cVI 167 X (st := []) mv_X8_185 dX8_about_167 h0 8 [.int b1] (c_X8_counted h0 h1 o0 (.int v_z_length) (.int v_z_dots) (.int v_z_cool) (.int v_z_power) (.int v_z_low) (.int v_z_high) (.int v_z_ghost) (.ref h2) o1 (.int v_z_acts) o2 o3 o4 o5 o6 o7 (.int v_z_seen) o8 (.int v_z_dead) (.ref h3) (.ref h4) (.ref h5) o9 o10 o11 o12 o13 o14 o15 o16 o17 o18 v_now b1 h) [0, 1] (fun u : Unit => (W_X8_about (g_env Γ) h0 h1 h2 h3 h4 h5 o0 o1 o2 o3 o4 o5 o6 o7 o8 o9 o10 o11 o12 o13 o14 o15 o16 o17 o18 v_z_length v_z_dots v_z_cool v_z_power v_z_low v_z_high v_z_ghost v_z_acts v_z_seen v_z_dead v_now v_trial v_pulses v_most v_speed)) rfl ⟨(Nat.le_of_ble_eq_true rfl), (Nat.le_of_ble_eq_true rfl)⟩ ⟨rfl, rfl⟩ (Nat.le_of_ble_eq_true rfl) rfl rfl rfl (by decide) (fun _ => rfl) (fun _ => rfl) (fun r8 u h => ?_)
        refine g_goto 170 X 175 dX8_about_170 (by decide) ?_
        exact ret 175 _ _ (v_trial, v_pulses, v_most, v_speed) dX8_about_175 (vp_nar_int _) h
    | 9, _, c =>
      replace c : b1 = (9 : Int32) := c.trans (by decide)
      refine g_tableIn 1 X 150 151 dX8_about_1 (by rw [c]; decide) (by rw [c]; decide) (by rw [c]; decide) (by decide) ?_
      replace h := h.2.2.2.2.2.2.2.2.2.2.1 c
      refine g_iload_n 151 X dX8_about_151 1 rfl rfl ?_
      refine g_i2l 152 X dX8_about_152 ?_
      refine g_ldc2 153 X dX8_about_153 kc_X8_181 ?_
      refine g_ldc2 156 X dX8_about_156 kc_X8_183 ?_
      refine g_cSI 159 X (st := []) mv_X8_69 dX8_about_159 [.long (Int32.toInt64 b1), .long (6 : Int64), .long (14 : Int64)] (c_X8_in (Int32.toInt64 b1) (6 : Int64) (14 : Int64) h) [] (fun u : Unit => (W_X8_about (g_env Γ) h0 h1 h2 h3 h4 h5 o0 o1 o2 o3 o4 o5 o6 o7 o8 o9 o10 o11 o12 o13 o14 o15 o16 o17 o18 v_z_length v_z_dots v_z_cool v_z_power v_z_low v_z_high v_z_ghost v_z_acts v_z_seen v_z_dead v_now v_trial v_pulses v_most v_speed)) rfl ⟨(Nat.le_of_ble_eq_true rfl), (Nat.le_of_ble_eq_true rfl)⟩ ⟨rfl, rfl⟩ (Nat.le_of_ble_eq_true rfl) rfl (by decide) (fun _ => rfl) (fun _ => rfl) (fun r9 u h => ?_)
      refine g_if_eq 162 X 173 dX8_about_162 (by decide) (fun c => ?_) (fun c => ?_)
      · replace h := h.1 c
        refine g_bipush 173 X (-2 : Int32) dX8_about_173 k_bp_m2 ?_
        exact ret 175 _ _ (v_trial, v_pulses, v_most, v_speed) dX8_about_175 (vp_nar_int _) h
      · replace h := h.2 c
        refine g_aload_n 165 X dX8_about_165 0 rfl rfl ?_
        refine g_iload_n 166 X dX8_about_166 1 rfl rfl ?_
        refine g_cVI 167 X (st := []) mv_X8_185 dX8_about_167 h0 8 [.int b1] (c_X8_counted h0 h1 o0 (.int v_z_length) (.int v_z_dots) (.int v_z_cool) (.int v_z_power) (.int v_z_low) (.int v_z_high) (.int v_z_ghost) (.ref h2) o1 (.int v_z_acts) o2 o3 o4 o5 o6 o7 (.int v_z_seen) o8 (.int v_z_dead) (.ref h3) (.ref h4) (.ref h5) o9 o10 o11 o12 o13 o14 o15 o16 o17 o18 v_now b1 h) [0, 1] (fun u : Unit => (W_X8_about (g_env Γ) h0 h1 h2 h3 h4 h5 o0 o1 o2 o3 o4 o5 o6 o7 o8 o9 o10 o11 o12 o13 o14 o15 o16 o17 o18 v_z_length v_z_dots v_z_cool v_z_power v_z_low v_z_high v_z_ghost v_z_acts v_z_seen v_z_dead v_now v_trial v_pulses v_most v_speed)) rfl ⟨(Nat.le_of_ble_eq_true rfl), (Nat.le_of_ble_eq_true rfl)⟩ ⟨rfl, rfl⟩ (Nat.le_of_ble_eq_true rfl) rfl rfl rfl (by decide) (fun _ => rfl) (fun _ => rfl) (fun r10 u h => ?_)
        refine g_goto 170 X 175 dX8_about_170 (by decide) ?_
        exact ret 175 _ _ (v_trial, v_pulses, v_most, v_speed) dX8_about_175 (vp_nar_int _) h
    | 10, _, c =>
      replace c : b1 = (10 : Int32) := c.trans (by decide)
      refine g_tableIn 1 X 150 151 dX8_about_1 (by rw [c]; decide) (by rw [c]; decide) (by rw [c]; decide) (by decide) ?_
      replace h := h.2.2.2.2.2.2.2.2.2.2.2.1 c
      refine g_iload_n 151 X dX8_about_151 1 rfl rfl ?_
      refine g_i2l 152 X dX8_about_152 ?_
      refine g_ldc2 153 X dX8_about_153 kc_X8_181 ?_
      refine g_ldc2 156 X dX8_about_156 kc_X8_183 ?_
      refine g_cSI 159 X (st := []) mv_X8_69 dX8_about_159 [.long (Int32.toInt64 b1), .long (6 : Int64), .long (14 : Int64)] (c_X8_in (Int32.toInt64 b1) (6 : Int64) (14 : Int64) h) [] (fun u : Unit => (W_X8_about (g_env Γ) h0 h1 h2 h3 h4 h5 o0 o1 o2 o3 o4 o5 o6 o7 o8 o9 o10 o11 o12 o13 o14 o15 o16 o17 o18 v_z_length v_z_dots v_z_cool v_z_power v_z_low v_z_high v_z_ghost v_z_acts v_z_seen v_z_dead v_now v_trial v_pulses v_most v_speed)) rfl ⟨(Nat.le_of_ble_eq_true rfl), (Nat.le_of_ble_eq_true rfl)⟩ ⟨rfl, rfl⟩ (Nat.le_of_ble_eq_true rfl) rfl (by decide) (fun _ => rfl) (fun _ => rfl) (fun r11 u h => ?_)
      refine g_if_eq 162 X 173 dX8_about_162 (by decide) (fun c => ?_) (fun c => ?_)
      · replace h := h.1 c
        refine g_bipush 173 X (-2 : Int32) dX8_about_173 k_bp_m2 ?_
        exact ret 175 _ _ (v_trial, v_pulses, v_most, v_speed) dX8_about_175 (vp_nar_int _) h
      · replace h := h.2 c
        refine g_aload_n 165 X dX8_about_165 0 rfl rfl ?_
        refine g_iload_n 166 X dX8_about_166 1 rfl rfl ?_
        refine g_cVI 167 X (st := []) mv_X8_185 dX8_about_167 h0 8 [.int b1] (c_X8_counted h0 h1 o0 (.int v_z_length) (.int v_z_dots) (.int v_z_cool) (.int v_z_power) (.int v_z_low) (.int v_z_high) (.int v_z_ghost) (.ref h2) o1 (.int v_z_acts) o2 o3 o4 o5 o6 o7 (.int v_z_seen) o8 (.int v_z_dead) (.ref h3) (.ref h4) (.ref h5) o9 o10 o11 o12 o13 o14 o15 o16 o17 o18 v_now b1 h) [0, 1] (fun u : Unit => (W_X8_about (g_env Γ) h0 h1 h2 h3 h4 h5 o0 o1 o2 o3 o4 o5 o6 o7 o8 o9 o10 o11 o12 o13 o14 o15 o16 o17 o18 v_z_length v_z_dots v_z_cool v_z_power v_z_low v_z_high v_z_ghost v_z_acts v_z_seen v_z_dead v_now v_trial v_pulses v_most v_speed)) rfl ⟨(Nat.le_of_ble_eq_true rfl), (Nat.le_of_ble_eq_true rfl)⟩ ⟨rfl, rfl⟩ (Nat.le_of_ble_eq_true rfl) rfl rfl rfl (by decide) (fun _ => rfl) (fun _ => rfl) (fun r12 u h => ?_)
        refine g_goto 170 X 175 dX8_about_170 (by decide) ?_
        exact ret 175 _ _ (v_trial, v_pulses, v_most, v_speed) dX8_about_175 (vp_nar_int _) h
    | 11, _, c =>
      replace c : b1 = (11 : Int32) := c.trans (by decide)
      refine g_tableIn 1 X 150 151 dX8_about_1 (by rw [c]; decide) (by rw [c]; decide) (by rw [c]; decide) (by decide) ?_
      replace h := h.2.2.2.2.2.2.2.2.2.2.2.2.1 c
      refine g_iload_n 151 X dX8_about_151 1 rfl rfl ?_
      refine g_i2l 152 X dX8_about_152 ?_
      refine g_ldc2 153 X dX8_about_153 kc_X8_181 ?_
      refine g_ldc2 156 X dX8_about_156 kc_X8_183 ?_
      refine g_cSI 159 X (st := []) mv_X8_69 dX8_about_159 [.long (Int32.toInt64 b1), .long (6 : Int64), .long (14 : Int64)] (c_X8_in (Int32.toInt64 b1) (6 : Int64) (14 : Int64) h) [] (fun u : Unit => (W_X8_about (g_env Γ) h0 h1 h2 h3 h4 h5 o0 o1 o2 o3 o4 o5 o6 o7 o8 o9 o10 o11 o12 o13 o14 o15 o16 o17 o18 v_z_length v_z_dots v_z_cool v_z_power v_z_low v_z_high v_z_ghost v_z_acts v_z_seen v_z_dead v_now v_trial v_pulses v_most v_speed)) rfl ⟨(Nat.le_of_ble_eq_true rfl), (Nat.le_of_ble_eq_true rfl)⟩ ⟨rfl, rfl⟩ (Nat.le_of_ble_eq_true rfl) rfl (by decide) (fun _ => rfl) (fun _ => rfl) (fun r13 u h => ?_)
      refine g_if_eq 162 X 173 dX8_about_162 (by decide) (fun c => ?_) (fun c => ?_)
      · replace h := h.1 c
        refine g_bipush 173 X (-2 : Int32) dX8_about_173 k_bp_m2 ?_
        exact ret 175 _ _ (v_trial, v_pulses, v_most, v_speed) dX8_about_175 (vp_nar_int _) h
      · replace h := h.2 c
        refine g_aload_n 165 X dX8_about_165 0 rfl rfl ?_
        refine g_iload_n 166 X dX8_about_166 1 rfl rfl ?_
        refine g_cVI 167 X (st := []) mv_X8_185 dX8_about_167 h0 8 [.int b1] (c_X8_counted h0 h1 o0 (.int v_z_length) (.int v_z_dots) (.int v_z_cool) (.int v_z_power) (.int v_z_low) (.int v_z_high) (.int v_z_ghost) (.ref h2) o1 (.int v_z_acts) o2 o3 o4 o5 o6 o7 (.int v_z_seen) o8 (.int v_z_dead) (.ref h3) (.ref h4) (.ref h5) o9 o10 o11 o12 o13 o14 o15 o16 o17 o18 v_now b1 h) [0, 1] (fun u : Unit => (W_X8_about (g_env Γ) h0 h1 h2 h3 h4 h5 o0 o1 o2 o3 o4 o5 o6 o7 o8 o9 o10 o11 o12 o13 o14 o15 o16 o17 o18 v_z_length v_z_dots v_z_cool v_z_power v_z_low v_z_high v_z_ghost v_z_acts v_z_seen v_z_dead v_now v_trial v_pulses v_most v_speed)) rfl ⟨(Nat.le_of_ble_eq_true rfl), (Nat.le_of_ble_eq_true rfl)⟩ ⟨rfl, rfl⟩ (Nat.le_of_ble_eq_true rfl) rfl rfl rfl (by decide) (fun _ => rfl) (fun _ => rfl) (fun r14 u h => ?_)
        refine g_goto 170 X 175 dX8_about_170 (by decide) ?_
        exact ret 175 _ _ (v_trial, v_pulses, v_most, v_speed) dX8_about_175 (vp_nar_int _) h
    | 12, _, c =>
      replace c : b1 = (12 : Int32) := c.trans (by decide)
      refine g_tableIn 1 X 150 151 dX8_about_1 (by rw [c]; decide) (by rw [c]; decide) (by rw [c]; decide) (by decide) ?_
      replace h := h.2.2.2.2.2.2.2.2.2.2.2.2.2.1 c
      refine g_iload_n 151 X dX8_about_151 1 rfl rfl ?_
      refine g_i2l 152 X dX8_about_152 ?_
      refine g_ldc2 153 X dX8_about_153 kc_X8_181 ?_
      refine g_ldc2 156 X dX8_about_156 kc_X8_183 ?_
      refine g_cSI 159 X (st := []) mv_X8_69 dX8_about_159 [.long (Int32.toInt64 b1), .long (6 : Int64), .long (14 : Int64)] (c_X8_in (Int32.toInt64 b1) (6 : Int64) (14 : Int64) h) [] (fun u : Unit => (W_X8_about (g_env Γ) h0 h1 h2 h3 h4 h5 o0 o1 o2 o3 o4 o5 o6 o7 o8 o9 o10 o11 o12 o13 o14 o15 o16 o17 o18 v_z_length v_z_dots v_z_cool v_z_power v_z_low v_z_high v_z_ghost v_z_acts v_z_seen v_z_dead v_now v_trial v_pulses v_most v_speed)) rfl ⟨(Nat.le_of_ble_eq_true rfl), (Nat.le_of_ble_eq_true rfl)⟩ ⟨rfl, rfl⟩ (Nat.le_of_ble_eq_true rfl) rfl (by decide) (fun _ => rfl) (fun _ => rfl) (fun r15 u h => ?_)
      refine g_if_eq 162 X 173 dX8_about_162 (by decide) (fun c => ?_) (fun c => ?_)
      · replace h := h.1 c
        refine g_bipush 173 X (-2 : Int32) dX8_about_173 k_bp_m2 ?_
        exact ret 175 _ _ (v_trial, v_pulses, v_most, v_speed) dX8_about_175 (vp_nar_int _) h
      · replace h := h.2 c
        refine g_aload_n 165 X dX8_about_165 0 rfl rfl ?_
        refine g_iload_n 166 X dX8_about_166 1 rfl rfl ?_
        refine g_cVI 167 X (st := []) mv_X8_185 dX8_about_167 h0 8 [.int b1] (c_X8_counted h0 h1 o0 (.int v_z_length) (.int v_z_dots) (.int v_z_cool) (.int v_z_power) (.int v_z_low) (.int v_z_high) (.int v_z_ghost) (.ref h2) o1 (.int v_z_acts) o2 o3 o4 o5 o6 o7 (.int v_z_seen) o8 (.int v_z_dead) (.ref h3) (.ref h4) (.ref h5) o9 o10 o11 o12 o13 o14 o15 o16 o17 o18 v_now b1 h) [0, 1] (fun u : Unit => (W_X8_about (g_env Γ) h0 h1 h2 h3 h4 h5 o0 o1 o2 o3 o4 o5 o6 o7 o8 o9 o10 o11 o12 o13 o14 o15 o16 o17 o18 v_z_length v_z_dots v_z_cool v_z_power v_z_low v_z_high v_z_ghost v_z_acts v_z_seen v_z_dead v_now v_trial v_pulses v_most v_speed)) rfl ⟨(Nat.le_of_ble_eq_true rfl), (Nat.le_of_ble_eq_true rfl)⟩ ⟨rfl, rfl⟩ (Nat.le_of_ble_eq_true rfl) rfl rfl rfl (by decide) (fun _ => rfl) (fun _ => rfl) (fun r16 u h => ?_)
        refine g_goto 170 X 175 dX8_about_170 (by decide) ?_
        exact ret 175 _ _ (v_trial, v_pulses, v_most, v_speed) dX8_about_175 (vp_nar_int _) h
    | 13, _, c =>
      replace c : b1 = (13 : Int32) := c.trans (by decide)
      refine g_tableIn 1 X 150 151 dX8_about_1 (by rw [c]; decide) (by rw [c]; decide) (by rw [c]; decide) (by decide) ?_
      replace h := h.2.2.2.2.2.2.2.2.2.2.2.2.2.2.1 c
      refine g_iload_n 151 X dX8_about_151 1 rfl rfl ?_
      refine g_i2l 152 X dX8_about_152 ?_
      refine g_ldc2 153 X dX8_about_153 kc_X8_181 ?_
      refine g_ldc2 156 X dX8_about_156 kc_X8_183 ?_
      refine g_cSI 159 X (st := []) mv_X8_69 dX8_about_159 [.long (Int32.toInt64 b1), .long (6 : Int64), .long (14 : Int64)] (c_X8_in (Int32.toInt64 b1) (6 : Int64) (14 : Int64) h) [] (fun u : Unit => (W_X8_about (g_env Γ) h0 h1 h2 h3 h4 h5 o0 o1 o2 o3 o4 o5 o6 o7 o8 o9 o10 o11 o12 o13 o14 o15 o16 o17 o18 v_z_length v_z_dots v_z_cool v_z_power v_z_low v_z_high v_z_ghost v_z_acts v_z_seen v_z_dead v_now v_trial v_pulses v_most v_speed)) rfl ⟨(Nat.le_of_ble_eq_true rfl), (Nat.le_of_ble_eq_true rfl)⟩ ⟨rfl, rfl⟩ (Nat.le_of_ble_eq_true rfl) rfl (by decide) (fun _ => rfl) (fun _ => rfl) (fun r17 u h => ?_)
      refine g_if_eq 162 X 173 dX8_about_162 (by decide) (fun c => ?_) (fun c => ?_)
      · replace h := h.1 c
        refine g_bipush 173 X (-2 : Int32) dX8_about_173 k_bp_m2 ?_
        exact ret 175 _ _ (v_trial, v_pulses, v_most, v_speed) dX8_about_175 (vp_nar_int _) h
      · replace h := h.2 c
        refine g_aload_n 165 X dX8_about_165 0 rfl rfl ?_
        refine g_iload_n 166 X dX8_about_166 1 rfl rfl ?_
        refine g_cVI 167 X (st := []) mv_X8_185 dX8_about_167 h0 8 [.int b1] (c_X8_counted h0 h1 o0 (.int v_z_length) (.int v_z_dots) (.int v_z_cool) (.int v_z_power) (.int v_z_low) (.int v_z_high) (.int v_z_ghost) (.ref h2) o1 (.int v_z_acts) o2 o3 o4 o5 o6 o7 (.int v_z_seen) o8 (.int v_z_dead) (.ref h3) (.ref h4) (.ref h5) o9 o10 o11 o12 o13 o14 o15 o16 o17 o18 v_now b1 h) [0, 1] (fun u : Unit => (W_X8_about (g_env Γ) h0 h1 h2 h3 h4 h5 o0 o1 o2 o3 o4 o5 o6 o7 o8 o9 o10 o11 o12 o13 o14 o15 o16 o17 o18 v_z_length v_z_dots v_z_cool v_z_power v_z_low v_z_high v_z_ghost v_z_acts v_z_seen v_z_dead v_now v_trial v_pulses v_most v_speed)) rfl ⟨(Nat.le_of_ble_eq_true rfl), (Nat.le_of_ble_eq_true rfl)⟩ ⟨rfl, rfl⟩ (Nat.le_of_ble_eq_true rfl) rfl rfl rfl (by decide) (fun _ => rfl) (fun _ => rfl) (fun r18 u h => ?_)
        refine g_goto 170 X 175 dX8_about_170 (by decide) ?_
        exact ret 175 _ _ (v_trial, v_pulses, v_most, v_speed) dX8_about_175 (vp_nar_int _) h
    | 14, _, c =>
      replace c : b1 = (14 : Int32) := c.trans (by decide)
      refine g_tableIn 1 X 150 151 dX8_about_1 (by rw [c]; decide) (by rw [c]; decide) (by rw [c]; decide) (by decide) ?_
      replace h := h.2.2.2.2.2.2.2.2.2.2.2.2.2.2.2.1 c
      refine g_iload_n 151 X dX8_about_151 1 rfl rfl ?_
      refine g_i2l 152 X dX8_about_152 ?_
      refine g_ldc2 153 X dX8_about_153 kc_X8_181 ?_
      refine g_ldc2 156 X dX8_about_156 kc_X8_183 ?_
      refine g_cSI 159 X (st := []) mv_X8_69 dX8_about_159 [.long (Int32.toInt64 b1), .long (6 : Int64), .long (14 : Int64)] (c_X8_in (Int32.toInt64 b1) (6 : Int64) (14 : Int64) h) [] (fun u : Unit => (W_X8_about (g_env Γ) h0 h1 h2 h3 h4 h5 o0 o1 o2 o3 o4 o5 o6 o7 o8 o9 o10 o11 o12 o13 o14 o15 o16 o17 o18 v_z_length v_z_dots v_z_cool v_z_power v_z_low v_z_high v_z_ghost v_z_acts v_z_seen v_z_dead v_now v_trial v_pulses v_most v_speed)) rfl ⟨(Nat.le_of_ble_eq_true rfl), (Nat.le_of_ble_eq_true rfl)⟩ ⟨rfl, rfl⟩ (Nat.le_of_ble_eq_true rfl) rfl (by decide) (fun _ => rfl) (fun _ => rfl) (fun r19 u h => ?_)
      refine g_if_eq 162 X 173 dX8_about_162 (by decide) (fun c => ?_) (fun c => ?_)
      · replace h := h.1 c
        refine g_bipush 173 X (-2 : Int32) dX8_about_173 k_bp_m2 ?_
        exact ret 175 _ _ (v_trial, v_pulses, v_most, v_speed) dX8_about_175 (vp_nar_int _) h
      · replace h := h.2 c
        refine g_aload_n 165 X dX8_about_165 0 rfl rfl ?_
        refine g_iload_n 166 X dX8_about_166 1 rfl rfl ?_
        refine g_cVI 167 X (st := []) mv_X8_185 dX8_about_167 h0 8 [.int b1] (c_X8_counted h0 h1 o0 (.int v_z_length) (.int v_z_dots) (.int v_z_cool) (.int v_z_power) (.int v_z_low) (.int v_z_high) (.int v_z_ghost) (.ref h2) o1 (.int v_z_acts) o2 o3 o4 o5 o6 o7 (.int v_z_seen) o8 (.int v_z_dead) (.ref h3) (.ref h4) (.ref h5) o9 o10 o11 o12 o13 o14 o15 o16 o17 o18 v_now b1 h) [0, 1] (fun u : Unit => (W_X8_about (g_env Γ) h0 h1 h2 h3 h4 h5 o0 o1 o2 o3 o4 o5 o6 o7 o8 o9 o10 o11 o12 o13 o14 o15 o16 o17 o18 v_z_length v_z_dots v_z_cool v_z_power v_z_low v_z_high v_z_ghost v_z_acts v_z_seen v_z_dead v_now v_trial v_pulses v_most v_speed)) rfl ⟨(Nat.le_of_ble_eq_true rfl), (Nat.le_of_ble_eq_true rfl)⟩ ⟨rfl, rfl⟩ (Nat.le_of_ble_eq_true rfl) rfl rfl rfl (by decide) (fun _ => rfl) (fun _ => rfl) (fun r20 u h => ?_)
        refine g_goto 170 X 175 dX8_about_170 (by decide) ?_
        exact ret 175 _ _ (v_trial, v_pulses, v_most, v_speed) dX8_about_175 (vp_nar_int _) h
    | 15, _, c =>
      replace c : b1 = (15 : Int32) := c.trans (by decide)
      refine g_tableIn 1 X 125 126 dX8_about_1 (by rw [c]; decide) (by rw [c]; decide) (by rw [c]; decide) (by decide) ?_
      replace h := h.2.2.2.2.2.2.2.2.2.2.2.2.2.2.2.2.1 c
      refine g_aload_n 126 X dX8_about_126 0 rfl rfl ?_
      refine g_cVI 127 X (st := []) mv_X8_172 dX8_about_127 h0 8 [] (c_X8_ticks h0 h1 h3 h4 h5 o0 (.int v_z_length) (.int v_z_cool) (.int v_z_low) (.int v_z_high) (.int v_z_ghost) (.ref h2) o1 (.int v_z_acts) o2 o3 o4 o5 o6 o7 (.int v_z_seen) o8 (.int v_z_dead) o9 o10 o11 o12 o13 o14 o15 o16 o17 o18 v_z_dots v_z_power v_now v_pulses v_most v_speed h) [0, 1, 3, 4, 5] (fun u : (Nat → Int32) × (Nat → Int32) × (Nat → Int32) => (W_X8_about (g_env Γ) h0 h1 h2 h3 h4 h5 o0 o1 o2 o3 o4 o5 o6 o7 o8 o9 o10 o11 o12 o13 o14 o15 o16 o17 o18 v_z_length v_z_dots v_z_cool v_z_power v_z_low v_z_high v_z_ghost v_z_acts v_z_seen v_z_dead v_now v_trial u.1 u.2.1 u.2.2)) rfl ⟨(Nat.le_of_ble_eq_true rfl), (Nat.le_of_ble_eq_true rfl)⟩ ⟨rfl, rfl⟩ (Nat.le_of_ble_eq_true rfl) rfl rfl rfl (by decide) (fun _ => rfl) (fun _ => rfl) (fun r21 u h => ?_)
      obtain ⟨v_pulses_22, v_most_23, v_speed_24⟩ := u
      dsimp only at h ⊢
      exact ret 130 _ _ (v_trial, v_pulses_22, v_most_23, v_speed_24) dX8_about_130 (vp_nar_int _) h
    | 16, _, c =>
      replace c : b1 = (16 : Int32) := c.trans (by decide)
      refine g_tableIn 1 X 130 131 dX8_about_1 (by rw [c]; decide) (by rw [c]; decide) (by rw [c]; decide) (by decide) ?_
      replace h := h.2.2.2.2.2.2.2.2.2.2.2.2.2.2.2.2.2.1 c
      refine g_aload_n 131 X dX8_about_131 0 rfl rfl ?_
      refine g_cVI 132 X (st := []) mv_X8_175 dX8_about_132 h0 8 [] (c_X8_restNow h0 h1 h2 h3 o0 (.int v_z_length) (.int v_z_power) o1 (.int v_z_acts) o2 o3 o4 o5 o6 o7 (.int v_z_seen) o8 (.ref h4) (.ref h5) o9 o10 o11 o12 o13 o14 o15 o16 o17 o18 v_z_dots v_z_cool v_z_low v_z_high v_z_ghost v_z_dead v_now v_trial v_pulses h) [0, 1, 2, 3] (fun u : (Nat → Int32) × (Nat → Int32) => (W_X8_about (g_env Γ) h0 h1 h2 h3 h4 h5 o0 o1 o2 o3 o4 o5 o6 o7 o8 o9 o10 o11 o12 o13 o14 o15 o16 o17 o18 v_z_length v_z_dots v_z_cool v_z_power v_z_low v_z_high v_z_ghost v_z_acts v_z_seen v_z_dead v_now u.1 u.2 v_most v_speed)) rfl ⟨(Nat.le_of_ble_eq_true rfl), (Nat.le_of_ble_eq_true rfl)⟩ ⟨rfl, rfl⟩ (Nat.le_of_ble_eq_true rfl) rfl rfl rfl (by decide) (fun _ => rfl) (fun _ => rfl) (fun r25 u h => ?_)
      obtain ⟨v_trial_26, v_pulses_27⟩ := u
      dsimp only at h ⊢
      exact ret 135 _ _ (v_trial_26, v_pulses_27, v_most, v_speed) dX8_about_135 (vp_nar_int _) h
    | 17, _, c =>
      replace c : b1 = (17 : Int32) := c.trans (by decide)
      refine g_tableIn 1 X 135 136 dX8_about_1 (by rw [c]; decide) (by rw [c]; decide) (by rw [c]; decide) (by decide) ?_
      replace h := h.2.2.2.2.2.2.2.2.2.2.2.2.2.2.2.2.2.2.1 c
      refine g_aload_n 136 X dX8_about_136 0 rfl rfl ?_
      refine g_get 137 X fa_X8_120 dX8_about_137 0 rfl rfl ?_
      exact ret 140 _ _ (v_trial, v_pulses, v_most, v_speed) dX8_about_140 (vp_nar_int _) h
    | 18, _, c =>
      replace c : b1 = (18 : Int32) := c.trans (by decide)
      refine g_tableIn 1 X 140 141 dX8_about_1 (by rw [c]; decide) (by rw [c]; decide) (by rw [c]; decide) (by decide) ?_
      replace h := h.2.2.2.2.2.2.2.2.2.2.2.2.2.2.2.2.2.2.2.1 c
      refine g_aload_n 141 X dX8_about_141 0 rfl rfl ?_
      refine g_get 142 X fa_X8_178 dX8_about_142 0 rfl rfl ?_
      exact ret 145 _ _ (v_trial, v_pulses, v_most, v_speed) dX8_about_145 (vp_nar_int _) h
    | 19, _, c =>
      replace c : b1 = (19 : Int32) := c.trans (by decide)
      refine g_tableIn 1 X 145 146 dX8_about_1 (by rw [c]; decide) (by rw [c]; decide) (by rw [c]; decide) (by decide) ?_
      replace h := h.2.2.2.2.2.2.2.2.2.2.2.2.2.2.2.2.2.2.2.2 c
      refine g_aload_n 146 X dX8_about_146 0 rfl rfl ?_
      refine g_get 147 X fa_X8_75 dX8_about_147 0 rfl rfl ?_
      exact ret 150 _ _ (v_trial, v_pulses, v_most, v_speed) dX8_about_150 (vp_nar_int _) h
    | k + 20, hk, _ => exact absurd hk (by omega)

def W_X8_heat (E : g_E) (h0 : Nat) (h1 : Nat) (o0 o1 o2 o3 o4 o5 o6 o7 o8 o9 o10 o11 o12 o13 o14 o15 o16 o17 o18 o19 o20 o21 o22 o23 o24 o25 o26 o27 o28 o29 o30 o31 : Value) (v_z_dots : Int32) (v_now : Nat → Int32) : va_W := [(h0, .inr (8, [o0, o1, .int v_z_dots, o2, o3, o4, o5, o6, .ref h1, o7, o8, o9, o10, o11, o12, o13, o14, o15, o16, o17, o18, o19, o20, o21, o22, o23, o24, o25, o26, o27, o28, o29, o30, o31])), (h1, .inl (E.2.1, 30, .inl v_now))]
def P_X8_heat (b1 : Int32) (v_z_dots : Int32) (v_now : Nat → Int32) (K : Int32 → Prop) : Prop := (P_X8_isDot b1 v_z_dots (fun r1 => ((r1 = (0 : Int32) → K (-1 : Int32)) ∧ (¬ r1 = (0 : Int32) → (vp_in b1 30 ∧ K (v_now (Int32.toNatClampNeg b1)))))))
set_option maxHeartbeats 4000000 in
set_option maxRecDepth 100000 in
theorem c_X8_heat {l : Launch} {E : g_E} (h0 : Nat) (h1 : Nat) (o0 o1 o2 o3 o4 o5 o6 o7 o8 o9 o10 o11 o12 o13 o14 o15 o16 o17 o18 o19 o20 o21 o22 o23 o24 o25 o26 o27 o28 o29 o30 o31 : Value) (v_z_dots : Int32) (v_now : Nat → Int32) (b1 : Int32) {K : Int32 → Prop} (h : P_X8_heat b1 v_z_dots v_now K) : g_CI l E yX8_heat cX8_heat 2 .int (g_Rm 2 46) [.ref h0, .int b1] (W_X8_heat E h0 h1 o0 o1 o2 o3 o4 o5 o6 o7 o8 o9 o10 o11 o12 o13 o14 o15 o16 o17 o18 o19 o20 o21 o22 o23 o24 o25 o26 o27 o28 o29 o30 o31 v_z_dots v_now) (fun r (u : Unit) => K r) (fun (u : Unit) => (W_X8_heat E h0 h1 o0 o1 o2 o3 o4 o5 o6 o7 o8 o9 o10 o11 o12 o13 o14 o15 o16 o17 o18 o19 o20 o21 o22 o23 o24 o25 o26 o27 o28 o29 o30 o31 v_z_dots v_now)) := by
  refine g_entI RX8 (by decide) rfl (Nat.le_of_ble_eq_true rfl) ?_
  intro Γ X hE hl ret
  subst hE
  subst hl
  unfold P_X8_heat at h
  show g_G Γ (g_Rm 2 46) 2 0 [(0, .ref h0), (1, .int b1)] [] (W_X8_heat (g_env Γ) h0 h1 o0 o1 o2 o3 o4 o5 o6 o7 o8 o9 o10 o11 o12 o13 o14 o15 o16 o17 o18 o19 o20 o21 o22 o23 o24 o25 o26 o27 o28 o29 o30 o31 v_z_dots v_now)
  refine g_aload_n 0 X dX8_heat_0 0 rfl rfl ?_
  refine g_iload_n 1 X dX8_heat_1 1 rfl rfl ?_
  refine g_cVI 2 X (st := []) mv_X8_188 dX8_heat_2 h0 8 [.int b1] (c_X8_isDot h0 o0 o1 o2 o3 o4 o5 o6 (.ref h1) o7 o8 o9 o10 o11 o12 o13 o14 o15 o16 o17 o18 o19 o20 o21 o22 o23 o24 o25 o26 o27 o28 o29 o30 o31 v_z_dots b1 h) [0] (fun u : Unit => (W_X8_heat (g_env Γ) h0 h1 o0 o1 o2 o3 o4 o5 o6 o7 o8 o9 o10 o11 o12 o13 o14 o15 o16 o17 o18 o19 o20 o21 o22 o23 o24 o25 o26 o27 o28 o29 o30 o31 v_z_dots v_now)) rfl ⟨(Nat.le_of_ble_eq_true rfl), (Nat.le_of_ble_eq_true rfl)⟩ ⟨rfl, rfl⟩ (Nat.le_of_ble_eq_true rfl) rfl rfl rfl (by decide) (fun _ => rfl) (fun _ => rfl) (fun r1 u h => ?_)
  refine g_if_eq 5 X 17 dX8_heat_5 (by decide) (fun c => ?_) (fun c => ?_)
  · replace h := h.1 c
    refine g_iconst 17 X (-1 : Int32) dX8_heat_17 k_ic_m1 ?_
    exact ret 18 _ _ () dX8_heat_18 (vp_nar_int _) h
  · replace h := h.2 c
    refine g_aload_n 8 X dX8_heat_8 0 rfl rfl ?_
    refine g_get 9 X fa_X8_13 dX8_heat_9 0 rfl rfl ?_
    refine g_iload_n 12 X dX8_heat_12 1 rfl rfl ?_
    have f2 := h.1; replace h := h.2
    refine g_iald 13 X dX8_heat_13 1 rfl rfl f2 ?_
    refine g_goto 14 X 18 dX8_heat_14 (by decide) ?_
    exact ret 18 _ _ () dX8_heat_18 (vp_nar_int _) h

def W_X8_table (E : g_E) (h0 : Nat) (h1 : Nat) (o0 o1 o2 o3 o4 o5 o6 o7 o8 o9 o10 o11 o12 o13 o14 o15 o16 o17 o18 o19 o20 o21 o22 o23 o24 o25 o26 o27 o28 o29 o30 o31 o32 : Value) (v_now : Nat → Int32) : va_W := [(h0, .inr (8, [o0, o1, o2, o3, o4, o5, o6, o7, .ref h1, o8, o9, o10, o11, o12, o13, o14, o15, o16, o17, o18, o19, o20, o21, o22, o23, o24, o25, o26, o27, o28, o29, o30, o31, o32])), (h1, .inl (E.2.1, 30, .inl v_now))]
def P_X8_table (b1 : Int32) (v_now : Nat → Int32) (K : Int32 → Prop) : Prop := (P_X8_in (Int32.toInt64 b1) (0 : Int64) (4 : Int64) (fun r1 => ((r1 = (0 : Int32) → K (-2 : Int32)) ∧ (¬ r1 = (0 : Int32) → (vp_in ((8 : Int32) + b1) 30 ∧ K (v_now (Int32.toNatClampNeg ((8 : Int32) + b1))))))))
set_option maxHeartbeats 4000000 in
set_option maxRecDepth 100000 in
theorem c_X8_table {l : Launch} {E : g_E} (h0 : Nat) (h1 : Nat) (o0 o1 o2 o3 o4 o5 o6 o7 o8 o9 o10 o11 o12 o13 o14 o15 o16 o17 o18 o19 o20 o21 o22 o23 o24 o25 o26 o27 o28 o29 o30 o31 o32 : Value) (v_now : Nat → Int32) (b1 : Int32) {K : Int32 → Prop} (h : P_X8_table b1 v_now K) : g_CI l E yX8_table cX8_table 2 .int (g_Rm 1 25) [.ref h0, .int b1] (W_X8_table E h0 h1 o0 o1 o2 o3 o4 o5 o6 o7 o8 o9 o10 o11 o12 o13 o14 o15 o16 o17 o18 o19 o20 o21 o22 o23 o24 o25 o26 o27 o28 o29 o30 o31 o32 v_now) (fun r (u : Unit) => K r) (fun (u : Unit) => (W_X8_table E h0 h1 o0 o1 o2 o3 o4 o5 o6 o7 o8 o9 o10 o11 o12 o13 o14 o15 o16 o17 o18 o19 o20 o21 o22 o23 o24 o25 o26 o27 o28 o29 o30 o31 o32 v_now)) := by
  refine g_entI RX8 (by decide) rfl (Nat.le_of_ble_eq_true rfl) ?_
  intro Γ X hE hl ret
  subst hE
  subst hl
  unfold P_X8_table at h
  show g_G Γ (g_Rm 1 25) 2 0 [(0, .ref h0), (1, .int b1)] [] (W_X8_table (g_env Γ) h0 h1 o0 o1 o2 o3 o4 o5 o6 o7 o8 o9 o10 o11 o12 o13 o14 o15 o16 o17 o18 o19 o20 o21 o22 o23 o24 o25 o26 o27 o28 o29 o30 o31 o32 v_now)
  refine g_iload_n 0 X dX8_table_0 1 rfl rfl ?_
  refine g_i2l 1 X dX8_table_1 ?_
  refine g_lconst 2 X (0 : Int64) dX8_table_2 k_lc_0 ?_
  refine g_ldc2 3 X dX8_table_3 kc_X8_86 ?_
  refine g_cSI 6 X (st := []) mv_X8_69 dX8_table_6 [.long (Int32.toInt64 b1), .long (0 : Int64), .long (4 : Int64)] (c_X8_in (Int32.toInt64 b1) (0 : Int64) (4 : Int64) h) [] (fun u : Unit => (W_X8_table (g_env Γ) h0 h1 o0 o1 o2 o3 o4 o5 o6 o7 o8 o9 o10 o11 o12 o13 o14 o15 o16 o17 o18 o19 o20 o21 o22 o23 o24 o25 o26 o27 o28 o29 o30 o31 o32 v_now)) rfl ⟨(Nat.le_of_ble_eq_true rfl), (Nat.le_of_ble_eq_true rfl)⟩ ⟨rfl, rfl⟩ (Nat.le_of_ble_eq_true rfl) rfl (by decide) (fun _ => rfl) (fun _ => rfl) (fun r1 u h => ?_)
  refine g_if_eq 9 X 24 dX8_table_9 (by decide) (fun c => ?_) (fun c => ?_)
  · replace h := h.1 c
    refine g_bipush 24 X (-2 : Int32) dX8_table_24 k_bp_m2 ?_
    exact ret 26 _ _ () dX8_table_26 (vp_nar_int _) h
  · replace h := h.2 c
    refine g_aload_n 12 X dX8_table_12 0 rfl rfl ?_
    refine g_get 13 X fa_X8_13 dX8_table_13 0 rfl rfl ?_
    refine g_bipush 16 X (8 : Int32) dX8_table_16 k_bp_8 ?_
    refine g_iload_n 18 X dX8_table_18 1 rfl rfl ?_
    refine g_iadd 19 X dX8_table_19 ?_
    have f2 := h.1; replace h := h.2
    refine g_iald 20 X dX8_table_20 1 rfl rfl f2 ?_
    refine g_goto 21 X 26 dX8_table_21 (by decide) ?_
    exact ret 26 _ _ () dX8_table_26 (vp_nar_int _) h

def W_X8_line (E : g_E) (h0 : Nat) (h1 : Nat) (h2 : Nat) (h3 : Nat) (h4 : Nat) (o0 o1 o2 o3 o4 o5 o6 o7 o8 o9 o10 o11 o12 o13 o14 o15 o16 o17 o18 o19 o20 o21 o22 o23 o24 o25 o26 o27 : Value) (v_z_dots : Int32) (v_z_power : Int32) (v_now : Nat → Int32) (v_pulses : Nat → Int32) (v_most : Nat → Int32) (v_speed : Nat → Int32) : va_W := [(h0, .inr (8, [o0, o1, .int v_z_dots, o2, .int v_z_power, o3, o4, o5, .ref h1, o6, o7, o8, o9, o10, o11, o12, o13, o14, o15, o16, o17, .ref h2, .ref h3, .ref h4, o18, o19, o20, o21, o22, o23, o24, o25, o26, o27])), (h1, .inl (E.2.1, 30, .inl v_now)), (h2, .inl (E.2.1, 8, .inl v_pulses)), (h3, .inl (E.2.1, 8, .inl v_most)), (h4, .inl (E.2.1, 8, .inl v_speed))]
def P_X8_line (b1 : Int32) (b2 : Int32) (v_z_dots : Int32) (v_z_power : Int32) (v_now : Nat → Int32) (v_pulses : Nat → Int32) (v_most : Nat → Int32) (v_speed : Nat → Int32) (K : Int32 → (Nat → Int32) → (Nat → Int32) → (Nat → Int32) → Prop) : Prop := (P_X8_in (Int32.toInt64 b2) (0 : Int64) (3 : Int64) (fun r1 => ((¬ r1 = (0 : Int32) → (P_X8_in (Int32.toInt64 b1) (0 : Int64) (Int32.toInt64 ((v_now (Int32.toNatClampNeg (21 : Int32))) - (1 : Int32))) (fun r2 => ((¬ r2 = (0 : Int32) → (((b2.toInt < 0 ∨ 0 + (3 : Nat) ≤ b2.toInt) → (P_X8_laySpeeds v_z_dots v_z_power v_now v_pulses v_most v_speed (fun v_pulses_3 v_most_4 v_speed_5 => (vp_in b1 8 ∧ K (v_speed_5 (Int32.toNatClampNeg b1)) v_pulses_3 v_most_4 v_speed_5)))) ∧ (b2 = (0 : Int32) → (vp_in ((13 : Int32) + b1) 30 ∧ K (v_now (Int32.toNatClampNeg ((13 : Int32) + b1))) v_pulses v_most v_speed)) ∧ (b2 = (1 : Int32) → (P_X8_timeOf b1 v_z_dots v_z_power v_now v_pulses (fun r8 v_pulses_9 => K r8 v_pulses_9 v_most v_speed))) ∧ (b2 = (2 : Int32) → (P_X8_mostOf b1 v_z_dots v_z_power v_now v_pulses (fun r10 v_pulses_11 => K r10 v_pulses_11 v_most v_speed))))) ∧ (r2 = (0 : Int32) → K (-9 : Int32) v_pulses v_most v_speed))))) ∧ (r1 = (0 : Int32) → K (-2 : Int32) v_pulses v_most v_speed))))
set_option maxHeartbeats 4000000 in
set_option maxRecDepth 100000 in
theorem c_X8_line {l : Launch} {E : g_E} (h0 : Nat) (h1 : Nat) (h2 : Nat) (h3 : Nat) (h4 : Nat) (o0 o1 o2 o3 o4 o5 o6 o7 o8 o9 o10 o11 o12 o13 o14 o15 o16 o17 o18 o19 o20 o21 o22 o23 o24 o25 o26 o27 : Value) (v_z_dots : Int32) (v_z_power : Int32) (v_now : Nat → Int32) (v_pulses : Nat → Int32) (v_most : Nat → Int32) (v_speed : Nat → Int32) (b1 : Int32) (b2 : Int32) {K : Int32 → (Nat → Int32) → (Nat → Int32) → (Nat → Int32) → Prop} (h : P_X8_line b1 b2 v_z_dots v_z_power v_now v_pulses v_most v_speed K) : g_CI l E yX8_line cX8_line 3 .int (g_Rm 5 115) [.ref h0, .int b1, .int b2] (W_X8_line E h0 h1 h2 h3 h4 o0 o1 o2 o3 o4 o5 o6 o7 o8 o9 o10 o11 o12 o13 o14 o15 o16 o17 o18 o19 o20 o21 o22 o23 o24 o25 o26 o27 v_z_dots v_z_power v_now v_pulses v_most v_speed) (fun r (u : (Nat → Int32) × (Nat → Int32) × (Nat → Int32)) => K r u.1 u.2.1 u.2.2) (fun (u : (Nat → Int32) × (Nat → Int32) × (Nat → Int32)) => (W_X8_line E h0 h1 h2 h3 h4 o0 o1 o2 o3 o4 o5 o6 o7 o8 o9 o10 o11 o12 o13 o14 o15 o16 o17 o18 o19 o20 o21 o22 o23 o24 o25 o26 o27 v_z_dots v_z_power v_now u.1 u.2.1 u.2.2)) := by
  refine g_entI RX8 (by decide) rfl (Nat.le_of_ble_eq_true rfl) ?_
  intro Γ X hE hl ret
  subst hE
  subst hl
  unfold P_X8_line at h
  show g_G Γ (g_Rm 5 115) 3 0 [(0, .ref h0), (1, .int b1), (2, .int b2)] [] (W_X8_line (g_env Γ) h0 h1 h2 h3 h4 o0 o1 o2 o3 o4 o5 o6 o7 o8 o9 o10 o11 o12 o13 o14 o15 o16 o17 o18 o19 o20 o21 o22 o23 o24 o25 o26 o27 v_z_dots v_z_power v_now v_pulses v_most v_speed)
  refine g_iload_n 0 X dX8_line_0 2 rfl rfl ?_
  refine g_i2l 1 X dX8_line_1 ?_
  refine g_lconst 2 X (0 : Int64) dX8_line_2 k_lc_0 ?_
  refine g_ldc2 3 X dX8_line_3 kc_X8_191 ?_
  refine g_cSI 6 X (st := []) mv_X8_69 dX8_line_6 [.long (Int32.toInt64 b2), .long (0 : Int64), .long (3 : Int64)] (c_X8_in (Int32.toInt64 b2) (0 : Int64) (3 : Int64) h) [] (fun u : Unit => (W_X8_line (g_env Γ) h0 h1 h2 h3 h4 o0 o1 o2 o3 o4 o5 o6 o7 o8 o9 o10 o11 o12 o13 o14 o15 o16 o17 o18 o19 o20 o21 o22 o23 o24 o25 o26 o27 v_z_dots v_z_power v_now v_pulses v_most v_speed)) rfl ⟨(Nat.le_of_ble_eq_true rfl), (Nat.le_of_ble_eq_true rfl)⟩ ⟨rfl, rfl⟩ (Nat.le_of_ble_eq_true rfl) rfl (by decide) (fun _ => rfl) (fun _ => rfl) (fun r1 u h => ?_)
  refine g_if_ne 9 X 15 dX8_line_9 (by decide) (fun c => ?_) (fun c => ?_)
  · replace h := h.1 c
    refine g_iload_n 15 X dX8_line_15 1 rfl rfl ?_
    refine g_i2l 16 X dX8_line_16 ?_
    refine g_lconst 17 X (0 : Int64) dX8_line_17 k_lc_0 ?_
    refine g_aload_n 18 X dX8_line_18 0 rfl rfl ?_
    refine g_get 19 X fa_X8_13 dX8_line_19 0 rfl rfl ?_
    refine g_bipush 22 X (21 : Int32) dX8_line_22 k_bp_21 ?_
    refine g_iald 24 X dX8_line_24 1 rfl rfl (vp_lit (by decide)) ?_
    refine g_iconst 25 X (1 : Int32) dX8_line_25 k_ic_1 ?_
    refine g_isub 26 X dX8_line_26 ?_
    refine g_i2l 27 X dX8_line_27 ?_
    refine g_cSI 28 X (st := []) mv_X8_69 dX8_line_28 [.long (Int32.toInt64 b1), .long (0 : Int64), .long (Int32.toInt64 ((v_now (Int32.toNatClampNeg (21 : Int32))) - (1 : Int32)))] (c_X8_in (Int32.toInt64 b1) (0 : Int64) (Int32.toInt64 ((v_now (Int32.toNatClampNeg (21 : Int32))) - (1 : Int32))) h) [] (fun u : Unit => (W_X8_line (g_env Γ) h0 h1 h2 h3 h4 o0 o1 o2 o3 o4 o5 o6 o7 o8 o9 o10 o11 o12 o13 o14 o15 o16 o17 o18 o19 o20 o21 o22 o23 o24 o25 o26 o27 v_z_dots v_z_power v_now v_pulses v_most v_speed)) rfl ⟨(Nat.le_of_ble_eq_true rfl), (Nat.le_of_ble_eq_true rfl)⟩ ⟨rfl, rfl⟩ (Nat.le_of_ble_eq_true rfl) rfl (by decide) (fun _ => rfl) (fun _ => rfl) (fun r2 u h => ?_)
    refine g_if_ne 31 X 37 dX8_line_31 (by decide) (fun c => ?_) (fun c => ?_)
    · replace h := h.1 c
      refine g_iload_n 37 X dX8_line_37 2 rfl rfl ?_
      rcases sw_split b2 0 3 with c | ⟨k, hk, c⟩
      · refine g_tableOut 38 X 86 dX8_line_38 (c.elim Or.inl (fun c => Or.inr (by omega))) (by decide) ?_
        replace h := h.1 c
        refine g_aload_n 86 X dX8_line_86 0 rfl rfl ?_
        refine g_cVV 87 X (st := []) mv_X8_165 dX8_line_87 h0 8 [] (c_X8_laySpeeds h0 h1 h2 h3 h4 o0 o1 o2 o3 o4 o5 o6 o7 o8 o9 o10 o11 o12 o13 o14 o15 o16 o17 o18 o19 o20 o21 o22 o23 o24 o25 o26 o27 v_z_dots v_z_power v_now v_pulses v_most v_speed h) [0, 1, 2, 3, 4] (fun u : (Nat → Int32) × (Nat → Int32) × (Nat → Int32) => (W_X8_line (g_env Γ) h0 h1 h2 h3 h4 o0 o1 o2 o3 o4 o5 o6 o7 o8 o9 o10 o11 o12 o13 o14 o15 o16 o17 o18 o19 o20 o21 o22 o23 o24 o25 o26 o27 v_z_dots v_z_power v_now u.1 u.2.1 u.2.2)) rfl ⟨(Nat.le_of_ble_eq_true rfl), (Nat.le_of_ble_eq_true rfl)⟩ ⟨rfl, rfl⟩ (Nat.le_of_ble_eq_true rfl) rfl rfl rfl (by decide) (fun _ => rfl) (fun _ => rfl) (fun u h => ?_)
        obtain ⟨v_pulses_3, v_most_4, v_speed_5⟩ := u
        dsimp only at h ⊢
        refine g_aload_n 90 X dX8_line_90 0 rfl rfl ?_
        refine g_get 91 X fa_X8_44 dX8_line_91 0 rfl rfl ?_
        refine g_iload_n 94 X dX8_line_94 1 rfl rfl ?_
        have f6 := h.1; replace h := h.2
        refine g_iald 95 X dX8_line_95 4 rfl rfl f6 ?_
        exact ret 96 _ _ (v_pulses_3, v_most_4, v_speed_5) dX8_line_96 (vp_nar_int _) h
      · match k, hk, c with
        | 0, _, c =>
          replace c : b2 = (0 : Int32) := c.trans (by decide)
          refine g_tableIn 38 X 26 64 dX8_line_38 (by rw [c]; decide) (by rw [c]; decide) (by rw [c]; decide) (by decide) ?_
          replace h := h.2.1 c
          refine g_aload_n 64 X dX8_line_64 0 rfl rfl ?_
          refine g_get 65 X fa_X8_13 dX8_line_65 0 rfl rfl ?_
          refine g_bipush 68 X (13 : Int32) dX8_line_68 k_bp_13 ?_
          refine g_iload_n 70 X dX8_line_70 1 rfl rfl ?_
          refine g_iadd 71 X dX8_line_71 ?_
          have f7 := h.1; replace h := h.2
          refine g_iald 72 X dX8_line_72 1 rfl rfl f7 ?_
          exact ret 73 _ _ (v_pulses, v_most, v_speed) dX8_line_73 (vp_nar_int _) h
        | 1, _, c =>
          replace c : b2 = (1 : Int32) := c.trans (by decide)
          refine g_tableIn 38 X 36 74 dX8_line_38 (by rw [c]; decide) (by rw [c]; decide) (by rw [c]; decide) (by decide) ?_
          replace h := h.2.2.1 c
          refine g_aload_n 74 X dX8_line_74 0 rfl rfl ?_
          refine g_iload_n 75 X dX8_line_75 1 rfl rfl ?_
          refine g_cVI 76 X (st := []) mv_X8_158 dX8_line_76 h0 8 [.int b1] (c_X8_timeOf h0 h1 h2 o0 o1 o2 o3 o4 o5 o6 o7 o8 o9 o10 o11 o12 o13 o14 o15 o16 o17 (.ref h3) (.ref h4) o18 o19 o20 o21 o22 o23 o24 o25 o26 o27 v_z_dots v_z_power v_now v_pulses b1 h) [0, 1, 2] (fun u : (Nat → Int32) => (W_X8_line (g_env Γ) h0 h1 h2 h3 h4 o0 o1 o2 o3 o4 o5 o6 o7 o8 o9 o10 o11 o12 o13 o14 o15 o16 o17 o18 o19 o20 o21 o22 o23 o24 o25 o26 o27 v_z_dots v_z_power v_now u v_most v_speed)) rfl ⟨(Nat.le_of_ble_eq_true rfl), (Nat.le_of_ble_eq_true rfl)⟩ ⟨rfl, rfl⟩ (Nat.le_of_ble_eq_true rfl) rfl rfl rfl (by decide) (fun _ => rfl) (fun _ => rfl) (fun r8 u h => ?_)
          obtain ⟨v_pulses_9, rfl⟩ : ∃ z, z = u := ⟨_, rfl⟩
          exact ret 79 _ _ (v_pulses_9, v_most, v_speed) dX8_line_79 (vp_nar_int _) h
        | 2, _, c =>
          replace c : b2 = (2 : Int32) := c.trans (by decide)
          refine g_tableIn 38 X 42 80 dX8_line_38 (by rw [c]; decide) (by rw [c]; decide) (by rw [c]; decide) (by decide) ?_
          replace h := h.2.2.2 c
          refine g_aload_n 80 X dX8_line_80 0 rfl rfl ?_
          refine g_iload_n 81 X dX8_line_81 1 rfl rfl ?_
          refine g_cVI 82 X (st := []) mv_X8_162 dX8_line_82 h0 8 [.int b1] (c_X8_mostOf h0 h1 h2 o0 o1 o2 o3 o4 o5 o6 o7 o8 o9 o10 o11 o12 o13 o14 o15 o16 o17 (.ref h3) (.ref h4) o18 o19 o20 o21 o22 o23 o24 o25 o26 o27 v_z_dots v_z_power v_now v_pulses b1 h) [0, 1, 2] (fun u : (Nat → Int32) => (W_X8_line (g_env Γ) h0 h1 h2 h3 h4 o0 o1 o2 o3 o4 o5 o6 o7 o8 o9 o10 o11 o12 o13 o14 o15 o16 o17 o18 o19 o20 o21 o22 o23 o24 o25 o26 o27 v_z_dots v_z_power v_now u v_most v_speed)) rfl ⟨(Nat.le_of_ble_eq_true rfl), (Nat.le_of_ble_eq_true rfl)⟩ ⟨rfl, rfl⟩ (Nat.le_of_ble_eq_true rfl) rfl rfl rfl (by decide) (fun _ => rfl) (fun _ => rfl) (fun r10 u h => ?_)
          obtain ⟨v_pulses_11, rfl⟩ : ∃ z, z = u := ⟨_, rfl⟩
          exact ret 85 _ _ (v_pulses_11, v_most, v_speed) dX8_line_85 (vp_nar_int _) h
        | k + 3, hk, _ => exact absurd hk (by omega)
    · replace h := h.2 c
      refine g_bipush 34 X (-9 : Int32) dX8_line_34 k_bp_m9 ?_
      exact ret 36 _ _ (v_pulses, v_most, v_speed) dX8_line_36 (vp_nar_int _) h
  · replace h := h.2 c
    refine g_bipush 12 X (-2 : Int32) dX8_line_12 k_bp_m2 ?_
    exact ret 14 _ _ (v_pulses, v_most, v_speed) dX8_line_14 (vp_nar_int _) h

def W_X8_note (E : g_E) (h0 : Nat) (h1 : Nat) (h2 : Nat) (o0 o1 o2 o3 o4 o5 o6 o7 o8 o9 o10 o11 o12 o13 o14 o15 o16 o17 o18 o19 o20 o21 o22 o23 o24 o25 o26 o27 o28 o29 : Value) (v_z_acts : Int32) (v_z_next : Int32) (v_now : Nat → Int32) (v_diary : Nat → Int32) : va_W := [(h0, .inr (8, [o0, o1, o2, o3, o4, o5, o6, o7, .ref h1, o8, .ref h2, .int v_z_acts, .int v_z_next, o9, o10, o11, o12, o13, o14, o15, o16, o17, o18, o19, o20, o21, o22, o23, o24, o25, o26, o27, o28, o29])), (h1, .inl (E.2.1, 30, .inl v_now)), (h2, .inl (E.2.1, 420, .inl v_diary))]
def P_X8_note_L2 (v_z_next : Int32) (v_now : Nat → Int32) (C34 : (Nat → Int32) → Prop) : Nat → Int32 → (Nat → Int32) → Prop
  | 0, _, _ => False
  | n + 1, x1, v_diary => (((30 : Int32) ≤ x1 → C34 v_diary) ∧ (¬ (30 : Int32) ≤ x1 → (vp_in x1 30 ∧ (vp_in (((30 : Int32) * v_z_next) + x1) 420 ∧ P_X8_note_L2 v_z_next v_now C34 n (x1 + (1 : Int32)) (upd v_diary (Int32.toNatClampNeg (((30 : Int32) * v_z_next) + x1)) (v_now (Int32.toNatClampNeg x1)))))))
def P_X8_note (v_z_acts : Int32) (v_z_next : Int32) (v_now : Nat → Int32) (v_diary : Nat → Int32) (K : Int32 → Int32 → (Nat → Int32) → Prop) : Prop := (∃ ne : Nat, P_X8_note_L2 v_z_next v_now (fun v_diary_5 => (((14 : Int32) ≤ v_z_acts → K (14 : Int32) ((v_z_next + (1 : Int32)) - (v_z_next + (1 : Int32)) / (14 : Int32) * (14 : Int32)) v_diary_5) ∧ (¬ (14 : Int32) ≤ v_z_acts → K (v_z_acts + (1 : Int32)) ((v_z_next + (1 : Int32)) - (v_z_next + (1 : Int32)) / (14 : Int32) * (14 : Int32)) v_diary_5))) ne (0 : Int32) v_diary)
set_option maxHeartbeats 4000000 in
set_option maxRecDepth 100000 in
theorem l_X8_note_2 {Γ : g_C} (X : g_X Γ (g_Rm 0 0) cX8_note RX8 2) (h0 : Nat) (h1 : Nat) (h2 : Nat) (o0 o1 o2 o3 o4 o5 o6 o7 o8 o9 o10 o11 o12 o13 o14 o15 o16 o17 o18 o19 o20 o21 o22 o23 o24 o25 o26 o27 o28 o29 : Value) (v_z_acts : Int32) (v_z_next : Int32) (v_now : Nat → Int32) {C34 : (Nat → Int32) → Prop} (hC34 : ∀ (v_diary : Nat → Int32), C34 v_diary → g_G Γ (g_Rm 0 0) 2 34 [(0, .ref h0)] [] (W_X8_note (g_env Γ) h0 h1 h2 o0 o1 o2 o3 o4 o5 o6 o7 o8 o9 o10 o11 o12 o13 o14 o15 o16 o17 o18 o19 o20 o21 o22 o23 o24 o25 o26 o27 o28 o29 v_z_acts v_z_next v_now v_diary)) : ∀ (n : Nat) (x1 : Int32) (v_diary : Nat → Int32), P_X8_note_L2 v_z_next v_now C34 n x1 v_diary → g_G Γ (g_Rm 0 0) 2 2 [(0, .ref h0), (1, .int x1)] [] (W_X8_note (g_env Γ) h0 h1 h2 o0 o1 o2 o3 o4 o5 o6 o7 o8 o9 o10 o11 o12 o13 o14 o15 o16 o17 o18 o19 o20 o21 o22 o23 o24 o25 o26 o27 o28 o29 v_z_acts v_z_next v_now v_diary) := by
  intro n
  induction n with
  | zero => intro x1 v_diary h; exact False.elim h
  | succ n ih =>
    intro x1 v_diary h
    unfold P_X8_note_L2 at h
    refine g_iload_n 2 X dX8_note_2 1 rfl rfl ?_
    refine g_bipush 3 X (30 : Int32) dX8_note_3 k_bp_30 ?_
    refine g_icmp_ge 5 X 34 dX8_note_5 (by decide) (fun c => ?_) (fun c => ?_)
    · replace h := h.1 c
      refine g_sub [(0, .ref h0)] [0] rfl ?_
      exact hC34 v_diary h
    · replace h := h.2 c
      refine g_aload_n 8 X dX8_note_8 0 rfl rfl ?_
      refine g_get 9 X fa_X8_19 dX8_note_9 0 rfl rfl ?_
      refine g_bipush 12 X (30 : Int32) dX8_note_12 k_bp_30 ?_
      refine g_aload_n 14 X dX8_note_14 0 rfl rfl ?_
      refine g_get 15 X fa_X8_193 dX8_note_15 0 rfl rfl ?_
      refine g_imul 18 X dX8_note_18 ?_
      refine g_iload_n 19 X dX8_note_19 1 rfl rfl ?_
      refine g_iadd 20 X dX8_note_20 ?_
      refine g_aload_n 21 X dX8_note_21 0 rfl rfl ?_
      refine g_get 22 X fa_X8_13 dX8_note_22 0 rfl rfl ?_
      refine g_iload_n 25 X dX8_note_25 1 rfl rfl ?_
      have f3 := h.1; replace h := h.2
      refine g_iald 26 X dX8_note_26 1 rfl rfl f3 ?_
      have f4 := h.1; replace h := h.2
      refine g_iast 27 X (W_X8_note (g_env Γ) h0 h1 h2 o0 o1 o2 o3 o4 o5 o6 o7 o8 o9 o10 o11 o12 o13 o14 o15 o16 o17 o18 o19 o20 o21 o22 o23 o24 o25 o26 o27 o28 o29 v_z_acts v_z_next v_now (upd v_diary (Int32.toNatClampNeg (((30 : Int32) * v_z_next) + x1)) (v_now (Int32.toNatClampNeg x1)))) dX8_note_27 2 rfl rfl f4 rfl ?_
      refine g_iinc 28 X (x1 + (1 : Int32)) [(1, .int (x1 + (1 : Int32))), (0, .ref h0)] dX8_note_28 1 rfl (k_ii_1 _) (Nat.le_of_ble_eq_true rfl) rfl ?_
      refine g_goto 31 X 2 dX8_note_31 (by decide) ?_
      refine g_sub [(0, .ref h0), (1, .int (x1 + (1 : Int32)))] [1, 0] rfl ?_
      exact ih (x1 + (1 : Int32)) (upd v_diary (Int32.toNatClampNeg (((30 : Int32) * v_z_next) + x1)) (v_now (Int32.toNatClampNeg x1))) h
set_option maxHeartbeats 4000000 in
set_option maxRecDepth 100000 in
theorem c_X8_note {l : Launch} {E : g_E} (h0 : Nat) (h1 : Nat) (h2 : Nat) (o0 o1 o2 o3 o4 o5 o6 o7 o8 o9 o10 o11 o12 o13 o14 o15 o16 o17 o18 o19 o20 o21 o22 o23 o24 o25 o26 o27 o28 o29 : Value) (v_z_acts : Int32) (v_z_next : Int32) (v_now : Nat → Int32) (v_diary : Nat → Int32) {K : Int32 → Int32 → (Nat → Int32) → Prop} (h : P_X8_note v_z_acts v_z_next v_now v_diary K) : g_CV l E yX8_note cX8_note 2 (g_Rm 0 0) [.ref h0] (W_X8_note E h0 h1 h2 o0 o1 o2 o3 o4 o5 o6 o7 o8 o9 o10 o11 o12 o13 o14 o15 o16 o17 o18 o19 o20 o21 o22 o23 o24 o25 o26 o27 o28 o29 v_z_acts v_z_next v_now v_diary) (fun (u : Int32 × Int32 × (Nat → Int32)) => K u.1 u.2.1 u.2.2) (fun (u : Int32 × Int32 × (Nat → Int32)) => (W_X8_note E h0 h1 h2 o0 o1 o2 o3 o4 o5 o6 o7 o8 o9 o10 o11 o12 o13 o14 o15 o16 o17 o18 o19 o20 o21 o22 o23 o24 o25 o26 o27 o28 o29 u.1 u.2.1 v_now u.2.2)) := by
  refine g_entV RX8 (by decide) rfl (Nat.le_of_ble_eq_true rfl) ?_
  intro Γ X hE hl ret
  subst hE
  subst hl
  unfold P_X8_note at h
  show g_G Γ (g_Rm 0 0) 2 0 [(0, .ref h0)] [] (W_X8_note (g_env Γ) h0 h1 h2 o0 o1 o2 o3 o4 o5 o6 o7 o8 o9 o10 o11 o12 o13 o14 o15 o16 o17 o18 o19 o20 o21 o22 o23 o24 o25 o26 o27 o28 o29 v_z_acts v_z_next v_now v_diary)
  refine g_iconst 0 X (0 : Int32) dX8_note_0 k_ic_0 ?_
  refine g_istore_n 1 X [(1, .int (0 : Int32)), (0, .ref h0)] dX8_note_1 rfl (Nat.le_of_ble_eq_true rfl) rfl ?_
  obtain ⟨n6, h⟩ := h
  refine g_sub [(0, .ref h0), (1, .int (0 : Int32))] [1, 0] rfl ?_
  refine l_X8_note_2 X h0 h1 h2 o0 o1 o2 o3 o4 o5 o6 o7 o8 o9 o10 o11 o12 o13 o14 o15 o16 o17 o18 o19 o20 o21 o22 o23 o24 o25 o26 o27 o28 o29 v_z_acts v_z_next v_now (fun v_diary_5 h => ?_) n6 (0 : Int32) v_diary h
  · refine g_aload_n 34 X dX8_note_34 0 rfl rfl ?_
    refine g_aload_n 35 X dX8_note_35 0 rfl rfl ?_
    refine g_get 36 X fa_X8_193 dX8_note_36 0 rfl rfl ?_
    refine g_iconst 39 X (1 : Int32) dX8_note_39 k_ic_1 ?_
    refine g_iadd 40 X dX8_note_40 ?_
    refine g_bipush 41 X (14 : Int32) dX8_note_41 k_bp_14 ?_
    refine g_irem 43 X dX8_note_43 (by decide) ?_
    refine g_put 44 X (W_X8_note (g_env Γ) h0 h1 h2 o0 o1 o2 o3 o4 o5 o6 o7 o8 o9 o10 o11 o12 o13 o14 o15 o16 o17 o18 o19 o20 o21 o22 o23 o24 o25 o26 o27 o28 o29 v_z_acts ((v_z_next + (1 : Int32)) - (v_z_next + (1 : Int32)) / (14 : Int32) * (14 : Int32)) v_now v_diary_5) fa_X8_193 pa_8_12 dX8_note_44 0 rfl rfl rfl (Nat.le_of_ble_eq_true rfl) rfl ?_
    refine g_aload_n 47 X dX8_note_47 0 rfl rfl ?_
    refine g_aload_n 48 X dX8_note_48 0 rfl rfl ?_
    refine g_get 49 X fa_X8_120 dX8_note_49 0 rfl rfl ?_
    refine g_bipush 52 X (14 : Int32) dX8_note_52 k_bp_14 ?_
    refine g_icmp_ge 54 X 66 dX8_note_54 (by decide) (fun c => ?_) (fun c => ?_)
    · replace h := h.1 c
      refine g_bipush 66 X (14 : Int32) dX8_note_66 k_bp_14 ?_
      refine g_put 68 X (W_X8_note (g_env Γ) h0 h1 h2 o0 o1 o2 o3 o4 o5 o6 o7 o8 o9 o10 o11 o12 o13 o14 o15 o16 o17 o18 o19 o20 o21 o22 o23 o24 o25 o26 o27 o28 o29 (14 : Int32) ((v_z_next + (1 : Int32)) - (v_z_next + (1 : Int32)) / (14 : Int32) * (14 : Int32)) v_now v_diary_5) fa_X8_120 pa_8_11 dX8_note_68 0 rfl rfl rfl (Nat.le_of_ble_eq_true rfl) rfl ?_
      exact ret 71 _ ((14 : Int32), ((v_z_next + (1 : Int32)) - (v_z_next + (1 : Int32)) / (14 : Int32) * (14 : Int32)), v_diary_5) dX8_note_71 h
    · replace h := h.2 c
      refine g_aload_n 57 X dX8_note_57 0 rfl rfl ?_
      refine g_get 58 X fa_X8_120 dX8_note_58 0 rfl rfl ?_
      refine g_iconst 61 X (1 : Int32) dX8_note_61 k_ic_1 ?_
      refine g_iadd 62 X dX8_note_62 ?_
      refine g_goto 63 X 68 dX8_note_63 (by decide) ?_
      refine g_put 68 X (W_X8_note (g_env Γ) h0 h1 h2 o0 o1 o2 o3 o4 o5 o6 o7 o8 o9 o10 o11 o12 o13 o14 o15 o16 o17 o18 o19 o20 o21 o22 o23 o24 o25 o26 o27 o28 o29 (v_z_acts + (1 : Int32)) ((v_z_next + (1 : Int32)) - (v_z_next + (1 : Int32)) / (14 : Int32) * (14 : Int32)) v_now v_diary_5) fa_X8_120 pa_8_11 dX8_note_68 0 rfl rfl rfl (Nat.le_of_ble_eq_true rfl) rfl ?_
      exact ret 71 _ ((v_z_acts + (1 : Int32)), ((v_z_next + (1 : Int32)) - (v_z_next + (1 : Int32)) / (14 : Int32) * (14 : Int32)), v_diary_5) dX8_note_71 h

def W_X8_putOn (E : g_E) (h0 : Nat) (v_z : Nat → Int32) : va_W := [(h0, .inl (E.2.1, 30, .inl v_z))]
def P_X8_putOn (b1 : Int32) (v_z : Nat → Int32) (K : (Nat → Int32) → Prop) : Prop := (vp_in ((13 : Int32) + (v_z (Int32.toNatClampNeg (21 : Int32)))) 30 ∧ K (upd (upd v_z (Int32.toNatClampNeg ((13 : Int32) + (v_z (Int32.toNatClampNeg (21 : Int32))))) b1) (Int32.toNatClampNeg (21 : Int32)) (((upd v_z (Int32.toNatClampNeg ((13 : Int32) + (v_z (Int32.toNatClampNeg (21 : Int32))))) b1) (Int32.toNatClampNeg (21 : Int32))) + (1 : Int32))))
set_option maxHeartbeats 4000000 in
set_option maxRecDepth 100000 in
theorem c_X8_putOn {l : Launch} {E : g_E} (h0 : Nat) (v_z : Nat → Int32) (b1 : Int32) {K : (Nat → Int32) → Prop} (h : P_X8_putOn b1 v_z K) : g_CV l E yX8_putOn cX8_putOn 2 (g_Rm 0 0) [.ref h0, .int b1] (W_X8_putOn E h0 v_z) (fun (u : (Nat → Int32)) => K u) (fun (u : (Nat → Int32)) => (W_X8_putOn E h0 u)) := by
  refine g_entV RX8 (by decide) rfl (Nat.le_of_ble_eq_true rfl) ?_
  intro Γ X hE hl ret
  subst hE
  subst hl
  unfold P_X8_putOn at h
  show g_G Γ (g_Rm 0 0) 2 0 [(0, .ref h0), (1, .int b1)] [] (W_X8_putOn (g_env Γ) h0 v_z)
  refine g_aload_n 0 X dX8_putOn_0 0 rfl rfl ?_
  refine g_bipush 1 X (13 : Int32) dX8_putOn_1 k_bp_13 ?_
  refine g_aload_n 3 X dX8_putOn_3 0 rfl rfl ?_
  refine g_bipush 4 X (21 : Int32) dX8_putOn_4 k_bp_21 ?_
  refine g_iald 6 X dX8_putOn_6 0 rfl rfl (vp_lit (by decide)) ?_
  refine g_iadd 7 X dX8_putOn_7 ?_
  refine g_iload_n 8 X dX8_putOn_8 1 rfl rfl ?_
  have f1 := h.1; replace h := h.2
  refine g_iast 9 X (W_X8_putOn (g_env Γ) h0 (upd v_z (Int32.toNatClampNeg ((13 : Int32) + (v_z (Int32.toNatClampNeg (21 : Int32))))) b1)) dX8_putOn_9 0 rfl rfl f1 rfl ?_
  refine g_aload_n 10 X dX8_putOn_10 0 rfl rfl ?_
  refine g_bipush 11 X (21 : Int32) dX8_putOn_11 k_bp_21 ?_
  refine g_dup2 13 X dX8_putOn_13 rfl rfl ?_
  refine g_iald 14 X dX8_putOn_14 0 rfl rfl (vp_lit (by decide)) ?_
  refine g_iconst 15 X (1 : Int32) dX8_putOn_15 k_ic_1 ?_
  refine g_iadd 16 X dX8_putOn_16 ?_
  refine g_iast 17 X (W_X8_putOn (g_env Γ) h0 (upd (upd v_z (Int32.toNatClampNeg ((13 : Int32) + (v_z (Int32.toNatClampNeg (21 : Int32))))) b1) (Int32.toNatClampNeg (21 : Int32)) (((upd v_z (Int32.toNatClampNeg ((13 : Int32) + (v_z (Int32.toNatClampNeg (21 : Int32))))) b1) (Int32.toNatClampNeg (21 : Int32))) + (1 : Int32)))) dX8_putOn_17 0 rfl rfl (vp_lit (by decide)) rfl ?_
  exact ret 18 _ ((upd (upd v_z (Int32.toNatClampNeg ((13 : Int32) + (v_z (Int32.toNatClampNeg (21 : Int32))))) b1) (Int32.toNatClampNeg (21 : Int32)) (((upd v_z (Int32.toNatClampNeg ((13 : Int32) + (v_z (Int32.toNatClampNeg (21 : Int32))))) b1) (Int32.toNatClampNeg (21 : Int32))) + (1 : Int32)))) dX8_putOn_18 h

def W_X8_put (E : g_E) (h0 : Nat) (h1 : Nat) (h2 : Nat) (o0 o1 o2 o3 o4 o5 o6 o7 o8 o9 o10 o11 o12 o13 o14 o15 o16 o17 o18 o19 o20 o21 o22 o23 o24 o25 o26 o27 o28 : Value) (v_z_dots : Int32) (v_z_acts : Int32) (v_z_next : Int32) (v_now : Nat → Int32) (v_diary : Nat → Int32) : va_W := [(h0, .inr (8, [o0, o1, .int v_z_dots, o2, o3, o4, o5, o6, .ref h1, o7, .ref h2, .int v_z_acts, .int v_z_next, o8, o9, o10, o11, o12, o13, o14, o15, o16, o17, o18, o19, o20, o21, o22, o23, o24, o25, o26, o27, o28])), (h1, .inl (E.2.1, 30, .inl v_now)), (h2, .inl (E.2.1, 420, .inl v_diary))]
def P_X8_put (b1 : Int32) (v_z_dots : Int32) (v_z_acts : Int32) (v_z_next : Int32) (v_now : Nat → Int32) (v_diary : Nat → Int32) (K : Int32 → Int32 → Int32 → (Nat → Int32) → (Nat → Int32) → Prop) : Prop := (P_X8_isLine b1 v_z_dots (fun r1 => ((¬ r1 = (0 : Int32) → ((¬ (v_now (Int32.toNatClampNeg (21 : Int32))) = (8 : Int32) → (P_X8_note v_z_acts v_z_next v_now v_diary (fun v_z_acts_2 v_z_next_3 v_diary_4 => (P_X8_putOn b1 v_now (fun v_now_5 => K (v_now_5 (Int32.toNatClampNeg (21 : Int32))) v_z_acts_2 v_z_next_3 v_now_5 v_diary_4))))) ∧ ((v_now (Int32.toNatClampNeg (21 : Int32))) = (8 : Int32) → K (-4 : Int32) v_z_acts v_z_next v_now v_diary))) ∧ (r1 = (0 : Int32) → K (-2 : Int32) v_z_acts v_z_next v_now v_diary))))
set_option maxHeartbeats 4000000 in
set_option maxRecDepth 100000 in
theorem c_X8_put {l : Launch} {E : g_E} (h0 : Nat) (h1 : Nat) (h2 : Nat) (o0 o1 o2 o3 o4 o5 o6 o7 o8 o9 o10 o11 o12 o13 o14 o15 o16 o17 o18 o19 o20 o21 o22 o23 o24 o25 o26 o27 o28 : Value) (v_z_dots : Int32) (v_z_acts : Int32) (v_z_next : Int32) (v_now : Nat → Int32) (v_diary : Nat → Int32) (b1 : Int32) {K : Int32 → Int32 → Int32 → (Nat → Int32) → (Nat → Int32) → Prop} (h : P_X8_put b1 v_z_dots v_z_acts v_z_next v_now v_diary K) : g_CI l E yX8_put cX8_put 2 .int (g_Rm 2 46) [.ref h0, .int b1] (W_X8_put E h0 h1 h2 o0 o1 o2 o3 o4 o5 o6 o7 o8 o9 o10 o11 o12 o13 o14 o15 o16 o17 o18 o19 o20 o21 o22 o23 o24 o25 o26 o27 o28 v_z_dots v_z_acts v_z_next v_now v_diary) (fun r (u : Int32 × Int32 × (Nat → Int32) × (Nat → Int32)) => K r u.1 u.2.1 u.2.2.1 u.2.2.2) (fun (u : Int32 × Int32 × (Nat → Int32) × (Nat → Int32)) => (W_X8_put E h0 h1 h2 o0 o1 o2 o3 o4 o5 o6 o7 o8 o9 o10 o11 o12 o13 o14 o15 o16 o17 o18 o19 o20 o21 o22 o23 o24 o25 o26 o27 o28 v_z_dots u.1 u.2.1 u.2.2.1 u.2.2.2)) := by
  refine g_entI RX8 (by decide) rfl (Nat.le_of_ble_eq_true rfl) ?_
  intro Γ X hE hl ret
  subst hE
  subst hl
  unfold P_X8_put at h
  show g_G Γ (g_Rm 2 46) 2 0 [(0, .ref h0), (1, .int b1)] [] (W_X8_put (g_env Γ) h0 h1 h2 o0 o1 o2 o3 o4 o5 o6 o7 o8 o9 o10 o11 o12 o13 o14 o15 o16 o17 o18 o19 o20 o21 o22 o23 o24 o25 o26 o27 o28 v_z_dots v_z_acts v_z_next v_now v_diary)
  refine g_aload_n 0 X dX8_put_0 0 rfl rfl ?_
  refine g_iload_n 1 X dX8_put_1 1 rfl rfl ?_
  refine g_cVI 2 X (st := []) mv_X8_196 dX8_put_2 h0 8 [.int b1] (c_X8_isLine h0 o0 o1 o2 o3 o4 o5 o6 (.ref h1) o7 (.ref h2) (.int v_z_acts) (.int v_z_next) o8 o9 o10 o11 o12 o13 o14 o15 o16 o17 o18 o19 o20 o21 o22 o23 o24 o25 o26 o27 o28 v_z_dots b1 h) [0] (fun u : Unit => (W_X8_put (g_env Γ) h0 h1 h2 o0 o1 o2 o3 o4 o5 o6 o7 o8 o9 o10 o11 o12 o13 o14 o15 o16 o17 o18 o19 o20 o21 o22 o23 o24 o25 o26 o27 o28 v_z_dots v_z_acts v_z_next v_now v_diary)) rfl ⟨(Nat.le_of_ble_eq_true rfl), (Nat.le_of_ble_eq_true rfl)⟩ ⟨rfl, rfl⟩ (Nat.le_of_ble_eq_true rfl) rfl rfl rfl (by decide) (fun _ => rfl) (fun _ => rfl) (fun r1 u h => ?_)
  refine g_if_ne 5 X 11 dX8_put_5 (by decide) (fun c => ?_) (fun c => ?_)
  · replace h := h.1 c
    refine g_aload_n 11 X dX8_put_11 0 rfl rfl ?_
    refine g_get 12 X fa_X8_13 dX8_put_12 0 rfl rfl ?_
    refine g_bipush 15 X (21 : Int32) dX8_put_15 k_bp_21 ?_
    refine g_iald 17 X dX8_put_17 1 rfl rfl (vp_lit (by decide)) ?_
    refine g_bipush 18 X (8 : Int32) dX8_put_18 k_bp_8 ?_
    refine g_icmp_ne 20 X 26 dX8_put_20 (by decide) (fun c => ?_) (fun c => ?_)
    · replace h := h.1 c
      refine g_aload_n 26 X dX8_put_26 0 rfl rfl ?_
      refine g_cVV 27 X (st := []) mv_X8_199 dX8_put_27 h0 8 [] (c_X8_note h0 h1 h2 o0 o1 (.int v_z_dots) o2 o3 o4 o5 o6 o7 o8 o9 o10 o11 o12 o13 o14 o15 o16 o17 o18 o19 o20 o21 o22 o23 o24 o25 o26 o27 o28 v_z_acts v_z_next v_now v_diary h) [0, 1, 2] (fun u : Int32 × Int32 × (Nat → Int32) => (W_X8_put (g_env Γ) h0 h1 h2 o0 o1 o2 o3 o4 o5 o6 o7 o8 o9 o10 o11 o12 o13 o14 o15 o16 o17 o18 o19 o20 o21 o22 o23 o24 o25 o26 o27 o28 v_z_dots u.1 u.2.1 v_now u.2.2)) rfl ⟨(Nat.le_of_ble_eq_true rfl), (Nat.le_of_ble_eq_true rfl)⟩ ⟨rfl, rfl⟩ (Nat.le_of_ble_eq_true rfl) rfl rfl rfl (by decide) (fun _ => rfl) (fun _ => rfl) (fun u h => ?_)
      obtain ⟨v_z_acts_2, v_z_next_3, v_diary_4⟩ := u
      dsimp only at h ⊢
      refine g_aload_n 30 X dX8_put_30 0 rfl rfl ?_
      refine g_get 31 X fa_X8_13 dX8_put_31 0 rfl rfl ?_
      refine g_iload_n 34 X dX8_put_34 1 rfl rfl ?_
      refine g_cSV 35 X (st := []) mv_X8_202 dX8_put_35 [.ref h1, .int b1] (c_X8_putOn h1 v_now b1 h) [1] (fun u : (Nat → Int32) => (W_X8_put (g_env Γ) h0 h1 h2 o0 o1 o2 o3 o4 o5 o6 o7 o8 o9 o10 o11 o12 o13 o14 o15 o16 o17 o18 o19 o20 o21 o22 o23 o24 o25 o26 o27 o28 v_z_dots v_z_acts_2 v_z_next_3 u v_diary_4)) rfl ⟨(Nat.le_of_ble_eq_true rfl), (Nat.le_of_ble_eq_true rfl)⟩ ⟨rfl, rfl⟩ (Nat.le_of_ble_eq_true rfl) rfl (by decide) (fun _ => rfl) (fun _ => rfl) (fun u h => ?_)
      obtain ⟨v_now_5, rfl⟩ : ∃ z, z = u := ⟨_, rfl⟩
      refine g_aload_n 38 X dX8_put_38 0 rfl rfl ?_
      refine g_get 39 X fa_X8_13 dX8_put_39 0 rfl rfl ?_
      refine g_bipush 42 X (21 : Int32) dX8_put_42 k_bp_21 ?_
      refine g_iald 44 X dX8_put_44 1 rfl rfl (vp_lit (by decide)) ?_
      exact ret 45 _ _ (v_z_acts_2, v_z_next_3, v_now_5, v_diary_4) dX8_put_45 (vp_nar_int _) h
    · replace h := h.2 c
      refine g_bipush 23 X (-4 : Int32) dX8_put_23 k_bp_m4 ?_
      exact ret 25 _ _ (v_z_acts, v_z_next, v_now, v_diary) dX8_put_25 (vp_nar_int _) h
  · replace h := h.2 c
    refine g_bipush 8 X (-2 : Int32) dX8_put_8 k_bp_m2 ?_
    exact ret 10 _ _ (v_z_acts, v_z_next, v_now, v_diary) dX8_put_10 (vp_nar_int _) h

def W_X8_print (E : g_E) (h0 : Nat) (h1 : Nat) (h2 : Nat) (h3 : Nat) (o0 o1 o2 o3 o4 o5 o6 o7 o8 o9 o10 o11 o12 o13 o14 o15 o16 o17 o18 o19 o20 o21 o22 : Value) (v_z_dots : Int32) (v_z_cool : Int32) (v_z_low : Int32) (v_z_high : Int32) (v_z_ghost : Int32) (v_z_acts : Int32) (v_z_next : Int32) (v_z_dead : Int32) (v_now : Nat → Int32) (v_diary : Nat → Int32) (v_pulses : Nat → Int32) : va_W := [(h0, .inr (8, [o0, o1, .int v_z_dots, .int v_z_cool, o2, .int v_z_low, .int v_z_high, .int v_z_ghost, .ref h1, o3, .ref h2, .int v_z_acts, .int v_z_next, o4, o5, o6, o7, o8, o9, o10, .int v_z_dead, .ref h3, o11, o12, o13, o14, o15, o16, o17, o18, o19, o20, o21, o22])), (h1, .inl (E.2.1, 30, .inl v_now)), (h2, .inl (E.2.1, 420, .inl v_diary)), (h3, .inl (E.2.1, 8, .inl v_pulses))]
def P_X8_print (b1 : Int32) (v_z_dots : Int32) (v_z_cool : Int32) (v_z_low : Int32) (v_z_high : Int32) (v_z_ghost : Int32) (v_z_acts : Int32) (v_z_next : Int32) (v_z_dead : Int32) (v_now : Nat → Int32) (v_diary : Nat → Int32) (v_pulses : Nat → Int32) (K : Int32 → Int32 → Int32 → (Nat → Int32) → (Nat → Int32) → (Nat → Int32) → Prop) : Prop := (P_X8_in (Int32.toInt64 b1) (1 : Int64) (9 : Int64) (fun r1 => ((¬ r1 = (0 : Int32) → (P_X8_note v_z_acts v_z_next v_now v_diary (fun v_z_acts_2 v_z_next_3 v_diary_4 => (P_X8_printLines b1 v_z_dots v_z_cool v_z_low v_z_high v_z_ghost v_z_dead v_pulses v_now (fun r5 v_pulses_6 v_now_7 => K r5 v_z_acts_2 v_z_next_3 v_now_7 v_diary_4 v_pulses_6))))) ∧ (r1 = (0 : Int32) → K (-2 : Int32) v_z_acts v_z_next v_now v_diary v_pulses))))
set_option maxHeartbeats 4000000 in
set_option maxRecDepth 100000 in
theorem c_X8_print {l : Launch} {E : g_E} (h0 : Nat) (h1 : Nat) (h2 : Nat) (h3 : Nat) (o0 o1 o2 o3 o4 o5 o6 o7 o8 o9 o10 o11 o12 o13 o14 o15 o16 o17 o18 o19 o20 o21 o22 : Value) (v_z_dots : Int32) (v_z_cool : Int32) (v_z_low : Int32) (v_z_high : Int32) (v_z_ghost : Int32) (v_z_acts : Int32) (v_z_next : Int32) (v_z_dead : Int32) (v_now : Nat → Int32) (v_diary : Nat → Int32) (v_pulses : Nat → Int32) (b1 : Int32) {K : Int32 → Int32 → Int32 → (Nat → Int32) → (Nat → Int32) → (Nat → Int32) → Prop} (h : P_X8_print b1 v_z_dots v_z_cool v_z_low v_z_high v_z_ghost v_z_acts v_z_next v_z_dead v_now v_diary v_pulses K) : g_CI l E yX8_print cX8_print 2 .int (g_Rm 4 93) [.ref h0, .int b1] (W_X8_print E h0 h1 h2 h3 o0 o1 o2 o3 o4 o5 o6 o7 o8 o9 o10 o11 o12 o13 o14 o15 o16 o17 o18 o19 o20 o21 o22 v_z_dots v_z_cool v_z_low v_z_high v_z_ghost v_z_acts v_z_next v_z_dead v_now v_diary v_pulses) (fun r (u : Int32 × Int32 × (Nat → Int32) × (Nat → Int32) × (Nat → Int32)) => K r u.1 u.2.1 u.2.2.1 u.2.2.2.1 u.2.2.2.2) (fun (u : Int32 × Int32 × (Nat → Int32) × (Nat → Int32) × (Nat → Int32)) => (W_X8_print E h0 h1 h2 h3 o0 o1 o2 o3 o4 o5 o6 o7 o8 o9 o10 o11 o12 o13 o14 o15 o16 o17 o18 o19 o20 o21 o22 v_z_dots v_z_cool v_z_low v_z_high v_z_ghost u.1 u.2.1 v_z_dead u.2.2.1 u.2.2.2.1 u.2.2.2.2)) := by
  refine g_entI RX8 (by decide) rfl (Nat.le_of_ble_eq_true rfl) ?_
  intro Γ X hE hl ret
  subst hE
  subst hl
  unfold P_X8_print at h
  show g_G Γ (g_Rm 4 93) 2 0 [(0, .ref h0), (1, .int b1)] [] (W_X8_print (g_env Γ) h0 h1 h2 h3 o0 o1 o2 o3 o4 o5 o6 o7 o8 o9 o10 o11 o12 o13 o14 o15 o16 o17 o18 o19 o20 o21 o22 v_z_dots v_z_cool v_z_low v_z_high v_z_ghost v_z_acts v_z_next v_z_dead v_now v_diary v_pulses)
  refine g_iload_n 0 X dX8_print_0 1 rfl rfl ?_
  refine g_i2l 1 X dX8_print_1 ?_
  refine g_lconst 2 X (1 : Int64) dX8_print_2 k_lc_1 ?_
  refine g_ldc2 3 X dX8_print_3 kc_X8_91 ?_
  refine g_cSI 6 X (st := []) mv_X8_69 dX8_print_6 [.long (Int32.toInt64 b1), .long (1 : Int64), .long (9 : Int64)] (c_X8_in (Int32.toInt64 b1) (1 : Int64) (9 : Int64) h) [] (fun u : Unit => (W_X8_print (g_env Γ) h0 h1 h2 h3 o0 o1 o2 o3 o4 o5 o6 o7 o8 o9 o10 o11 o12 o13 o14 o15 o16 o17 o18 o19 o20 o21 o22 v_z_dots v_z_cool v_z_low v_z_high v_z_ghost v_z_acts v_z_next v_z_dead v_now v_diary v_pulses)) rfl ⟨(Nat.le_of_ble_eq_true rfl), (Nat.le_of_ble_eq_true rfl)⟩ ⟨rfl, rfl⟩ (Nat.le_of_ble_eq_true rfl) rfl (by decide) (fun _ => rfl) (fun _ => rfl) (fun r1 u h => ?_)
  refine g_if_ne 9 X 15 dX8_print_9 (by decide) (fun c => ?_) (fun c => ?_)
  · replace h := h.1 c
    refine g_aload_n 15 X dX8_print_15 0 rfl rfl ?_
    refine g_cVV 16 X (st := []) mv_X8_199 dX8_print_16 h0 8 [] (c_X8_note h0 h1 h2 o0 o1 (.int v_z_dots) (.int v_z_cool) o2 (.int v_z_low) (.int v_z_high) (.int v_z_ghost) o3 o4 o5 o6 o7 o8 o9 o10 (.int v_z_dead) (.ref h3) o11 o12 o13 o14 o15 o16 o17 o18 o19 o20 o21 o22 v_z_acts v_z_next v_now v_diary h) [0, 1, 2] (fun u : Int32 × Int32 × (Nat → Int32) => (W_X8_print (g_env Γ) h0 h1 h2 h3 o0 o1 o2 o3 o4 o5 o6 o7 o8 o9 o10 o11 o12 o13 o14 o15 o16 o17 o18 o19 o20 o21 o22 v_z_dots v_z_cool v_z_low v_z_high v_z_ghost u.1 u.2.1 v_z_dead v_now u.2.2 v_pulses)) rfl ⟨(Nat.le_of_ble_eq_true rfl), (Nat.le_of_ble_eq_true rfl)⟩ ⟨rfl, rfl⟩ (Nat.le_of_ble_eq_true rfl) rfl rfl rfl (by decide) (fun _ => rfl) (fun _ => rfl) (fun u h => ?_)
    obtain ⟨v_z_acts_2, v_z_next_3, v_diary_4⟩ := u
    dsimp only at h ⊢
    refine g_aload_n 19 X dX8_print_19 0 rfl rfl ?_
    refine g_aload_n 20 X dX8_print_20 0 rfl rfl ?_
    refine g_get 21 X fa_X8_13 dX8_print_21 0 rfl rfl ?_
    refine g_iload_n 24 X dX8_print_24 1 rfl rfl ?_
    refine g_cVI 25 X (st := []) mv_X8_205 dX8_print_25 h0 8 [.ref h1, .int b1] (c_X8_printLines h0 h3 h1 o0 o1 o2 (.ref h1) o3 (.ref h2) (.int v_z_acts_2) (.int v_z_next_3) o4 o5 o6 o7 o8 o9 o10 o11 o12 o13 o14 o15 o16 o17 o18 o19 o20 o21 o22 v_z_dots v_z_cool v_z_low v_z_high v_z_ghost v_z_dead v_pulses v_now b1 h) [0, 3, 1] (fun u : (Nat → Int32) × (Nat → Int32) => (W_X8_print (g_env Γ) h0 h1 h2 h3 o0 o1 o2 o3 o4 o5 o6 o7 o8 o9 o10 o11 o12 o13 o14 o15 o16 o17 o18 o19 o20 o21 o22 v_z_dots v_z_cool v_z_low v_z_high v_z_ghost v_z_acts_2 v_z_next_3 v_z_dead u.2 v_diary_4 u.1)) rfl ⟨(Nat.le_of_ble_eq_true rfl), (Nat.le_of_ble_eq_true rfl)⟩ ⟨rfl, rfl⟩ (Nat.le_of_ble_eq_true rfl) rfl rfl rfl (by decide) (fun _ => rfl) (fun _ => rfl) (fun r5 u h => ?_)
    obtain ⟨v_pulses_6, v_now_7⟩ := u
    dsimp only at h ⊢
    exact ret 28 _ _ (v_z_acts_2, v_z_next_3, v_now_7, v_diary_4, v_pulses_6) dX8_print_28 (vp_nar_int _) h
  · replace h := h.2 c
    refine g_bipush 12 X (-2 : Int32) dX8_print_12 k_bp_m2 ?_
    exact ret 14 _ _ (v_z_acts, v_z_next, v_now, v_diary, v_pulses) dX8_print_14 (vp_nar_int _) h

def W_X8_pause (E : g_E) (h0 : Nat) (h1 : Nat) (h2 : Nat) (o0 o1 o2 o3 o4 o5 o6 o7 o8 o9 o10 o11 o12 o13 o14 o15 o16 o17 o18 o19 o20 o21 o22 o23 o24 o25 o26 o27 : Value) (v_z_dots : Int32) (v_z_cool : Int32) (v_z_acts : Int32) (v_z_next : Int32) (v_now : Nat → Int32) (v_diary : Nat → Int32) : va_W := [(h0, .inr (8, [o0, o1, .int v_z_dots, .int v_z_cool, o2, o3, o4, o5, .ref h1, o6, .ref h2, .int v_z_acts, .int v_z_next, o7, o8, o9, o10, o11, o12, o13, o14, o15, o16, o17, o18, o19, o20, o21, o22, o23, o24, o25, o26, o27])), (h1, .inl (E.2.1, 30, .inl v_now)), (h2, .inl (E.2.1, 420, .inl v_diary))]
def P_X8_pause_L23 (v_z_dots : Int32) (v_z_cool : Int32) (x1 : Int32) (x2 : Int32) (C42 : (Nat → Int32) → Prop) : Nat → Int32 → (Nat → Int32) → Prop
  | 0, _, _ => False
  | n + 1, x3, v_now => ((x1 ≤ x3 → C42 v_now) ∧ (¬ x1 ≤ x3 → (P_X8_coolOn v_z_dots v_z_cool v_now (fun v_now_5 => P_X8_pause_L23 v_z_dots v_z_cool x1 x2 C42 n (x3 + (1 : Int32)) v_now_5))))
def P_X8_pause_L44 (v_z_dots : Int32) (v_now : Nat → Int32) (C67 : Int32 → Prop) : Nat → Int32 → Int32 → Prop
  | 0, _, _ => False
  | n + 1, x2, x3 => ((v_z_dots ≤ x3 → C67 x2) ∧ (¬ v_z_dots ≤ x3 → (vp_in x3 30 ∧ P_X8_pause_L44 v_z_dots v_now C67 n (x2 + (v_now (Int32.toNatClampNeg x3))) (x3 + (1 : Int32)))))
def P_X8_pause (b1 : Int32) (v_z_dots : Int32) (v_z_cool : Int32) (v_z_acts : Int32) (v_z_next : Int32) (v_now : Nat → Int32) (v_diary : Nat → Int32) (K : Int32 → Int32 → Int32 → (Nat → Int32) → (Nat → Int32) → Prop) : Prop := (P_X8_in (Int32.toInt64 b1) (1 : Int64) (99 : Int64) (fun r1 => ((¬ r1 = (0 : Int32) → (P_X8_note v_z_acts v_z_next v_now v_diary (fun v_z_acts_2 v_z_next_3 v_diary_4 => (∃ ne : Nat, P_X8_pause_L23 v_z_dots v_z_cool b1 (0 : Int32) (fun v_now_7 => (∃ ne : Nat, P_X8_pause_L44 v_z_dots v_now_7 (fun x10 => K x10 v_z_acts_2 v_z_next_3 v_now_7 v_diary_4) ne (0 : Int32) (0 : Int32))) ne (0 : Int32) v_now)))) ∧ (r1 = (0 : Int32) → K (-2 : Int32) v_z_acts v_z_next v_now v_diary))))
set_option maxHeartbeats 4000000 in
set_option maxRecDepth 100000 in
theorem l_X8_pause_23 {Γ : g_C} (X : g_X Γ (g_Rm 1 25) cX8_pause RX8 4) (h0 : Nat) (h1 : Nat) (h2 : Nat) (o0 o1 o2 o3 o4 o5 o6 o7 o8 o9 o10 o11 o12 o13 o14 o15 o16 o17 o18 o19 o20 o21 o22 o23 o24 o25 o26 o27 : Value) (v_z_dots : Int32) (v_z_cool : Int32) (v_z_acts : Int32) (v_z_next : Int32) (v_diary : Nat → Int32) (x1 : Int32) (x2 : Int32) {C42 : (Nat → Int32) → Prop} (hC42 : ∀ (v_now : Nat → Int32), C42 v_now → g_G Γ (g_Rm 1 25) 4 42 [(0, .ref h0), (2, .int x2)] [] (W_X8_pause (g_env Γ) h0 h1 h2 o0 o1 o2 o3 o4 o5 o6 o7 o8 o9 o10 o11 o12 o13 o14 o15 o16 o17 o18 o19 o20 o21 o22 o23 o24 o25 o26 o27 v_z_dots v_z_cool v_z_acts v_z_next v_now v_diary)) : ∀ (n : Nat) (x3 : Int32) (v_now : Nat → Int32), P_X8_pause_L23 v_z_dots v_z_cool x1 x2 C42 n x3 v_now → g_G Γ (g_Rm 1 25) 4 23 [(0, .ref h0), (1, .int x1), (2, .int x2), (3, .int x3)] [] (W_X8_pause (g_env Γ) h0 h1 h2 o0 o1 o2 o3 o4 o5 o6 o7 o8 o9 o10 o11 o12 o13 o14 o15 o16 o17 o18 o19 o20 o21 o22 o23 o24 o25 o26 o27 v_z_dots v_z_cool v_z_acts v_z_next v_now v_diary) := by
  intro n
  induction n with
  | zero => intro x3 v_now h; exact False.elim h
  | succ n ih =>
    intro x3 v_now h
    unfold P_X8_pause_L23 at h
    refine g_iload_n 23 X dX8_pause_23 3 rfl rfl ?_
    refine g_iload_n 24 X dX8_pause_24 1 rfl rfl ?_
    refine g_icmp_ge 25 X 42 dX8_pause_25 (by decide) (fun c => ?_) (fun c => ?_)
    · replace h := h.1 c
      refine g_sub [(0, .ref h0), (2, .int x2)] [0, 2] rfl ?_
      exact hC42 v_now h
    · replace h := h.2 c
      refine g_aload_n 28 X dX8_pause_28 0 rfl rfl ?_
      refine g_aload_n 29 X dX8_pause_29 0 rfl rfl ?_
      refine g_get 30 X fa_X8_13 dX8_pause_30 0 rfl rfl ?_
      refine g_cVV 33 X (st := []) mv_X8_133 dX8_pause_33 h0 8 [.ref h1] (c_X8_coolOn h0 h1 o0 o1 o2 o3 o4 o5 (.ref h1) o6 (.ref h2) (.int v_z_acts) (.int v_z_next) o7 o8 o9 o10 o11 o12 o13 o14 o15 o16 o17 o18 o19 o20 o21 o22 o23 o24 o25 o26 o27 v_z_dots v_z_cool v_now h) [0, 1] (fun u : (Nat → Int32) => (W_X8_pause (g_env Γ) h0 h1 h2 o0 o1 o2 o3 o4 o5 o6 o7 o8 o9 o10 o11 o12 o13 o14 o15 o16 o17 o18 o19 o20 o21 o22 o23 o24 o25 o26 o27 v_z_dots v_z_cool v_z_acts v_z_next u v_diary)) rfl ⟨(Nat.le_of_ble_eq_true rfl), (Nat.le_of_ble_eq_true rfl)⟩ ⟨rfl, rfl⟩ (Nat.le_of_ble_eq_true rfl) rfl rfl rfl (by decide) (fun _ => rfl) (fun _ => rfl) (fun u h => ?_)
      obtain ⟨v_now_6, rfl⟩ : ∃ z, z = u := ⟨_, rfl⟩
      refine g_iinc 36 X (x3 + (1 : Int32)) [(3, .int (x3 + (1 : Int32))), (0, .ref h0), (1, .int x1), (2, .int x2)] dX8_pause_36 3 rfl (k_ii_1 _) (Nat.le_of_ble_eq_true rfl) rfl ?_
      refine g_goto 39 X 23 dX8_pause_39 (by decide) ?_
      refine g_sub [(0, .ref h0), (1, .int x1), (2, .int x2), (3, .int (x3 + (1 : Int32)))] [1, 2, 3, 0] rfl ?_
      exact ih (x3 + (1 : Int32)) v_now_6 h
set_option maxHeartbeats 4000000 in
set_option maxRecDepth 100000 in
theorem l_X8_pause_44 {Γ : g_C} (X : g_X Γ (g_Rm 1 25) cX8_pause RX8 4) (h0 : Nat) (h1 : Nat) (h2 : Nat) (o0 o1 o2 o3 o4 o5 o6 o7 o8 o9 o10 o11 o12 o13 o14 o15 o16 o17 o18 o19 o20 o21 o22 o23 o24 o25 o26 o27 : Value) (v_z_dots : Int32) (v_z_cool : Int32) (v_z_acts : Int32) (v_z_next : Int32) (v_now : Nat → Int32) (v_diary : Nat → Int32) {C67 : Int32 → Prop} (hC67 : ∀ (x2 : Int32), C67 x2 → g_G Γ (g_Rm 1 25) 4 67 [(2, .int x2)] [] (W_X8_pause (g_env Γ) h0 h1 h2 o0 o1 o2 o3 o4 o5 o6 o7 o8 o9 o10 o11 o12 o13 o14 o15 o16 o17 o18 o19 o20 o21 o22 o23 o24 o25 o26 o27 v_z_dots v_z_cool v_z_acts v_z_next v_now v_diary)) : ∀ (n : Nat) (x2 : Int32) (x3 : Int32), P_X8_pause_L44 v_z_dots v_now C67 n x2 x3 → g_G Γ (g_Rm 1 25) 4 44 [(0, .ref h0), (2, .int x2), (3, .int x3)] [] (W_X8_pause (g_env Γ) h0 h1 h2 o0 o1 o2 o3 o4 o5 o6 o7 o8 o9 o10 o11 o12 o13 o14 o15 o16 o17 o18 o19 o20 o21 o22 o23 o24 o25 o26 o27 v_z_dots v_z_cool v_z_acts v_z_next v_now v_diary) := by
  intro n
  induction n with
  | zero => intro x2 x3 h; exact False.elim h
  | succ n ih =>
    intro x2 x3 h
    unfold P_X8_pause_L44 at h
    refine g_iload_n 44 X dX8_pause_44 2 rfl rfl ?_
    refine g_aload_n 45 X dX8_pause_45 0 rfl rfl ?_
    refine g_get 46 X fa_X8_59 dX8_pause_46 0 rfl rfl ?_
    refine g_icmp_ge 49 X 67 dX8_pause_49 (by decide) (fun c => ?_) (fun c => ?_)
    · replace h := h.1 c
      refine g_sub [(2, .int x2)] [1] rfl ?_
      exact hC67 x2 h
    · replace h := h.2 c
      refine g_iload_n 52 X dX8_pause_52 1 rfl rfl ?_
      refine g_aload_n 53 X dX8_pause_53 0 rfl rfl ?_
      refine g_get 54 X fa_X8_13 dX8_pause_54 0 rfl rfl ?_
      refine g_iload_n 57 X dX8_pause_57 2 rfl rfl ?_
      have f9 := h.1; replace h := h.2
      refine g_iald 58 X dX8_pause_58 1 rfl rfl f9 ?_
      refine g_iadd 59 X dX8_pause_59 ?_
      refine g_istore_n 60 X [(2, .int (x2 + (v_now (Int32.toNatClampNeg x3)))), (0, .ref h0), (3, .int x3)] dX8_pause_60 rfl (Nat.le_of_ble_eq_true rfl) rfl ?_
      refine g_iinc 61 X (x3 + (1 : Int32)) [(3, .int (x3 + (1 : Int32))), (2, .int (x2 + (v_now (Int32.toNatClampNeg x3)))), (0, .ref h0)] dX8_pause_61 2 rfl (k_ii_1 _) (Nat.le_of_ble_eq_true rfl) rfl ?_
      refine g_goto 64 X 44 dX8_pause_64 (by decide) ?_
      refine g_sub [(0, .ref h0), (2, .int (x2 + (v_now (Int32.toNatClampNeg x3)))), (3, .int (x3 + (1 : Int32)))] [2, 1, 0] rfl ?_
      exact ih (x2 + (v_now (Int32.toNatClampNeg x3))) (x3 + (1 : Int32)) h
set_option maxHeartbeats 4000000 in
set_option maxRecDepth 100000 in
theorem c_X8_pause {l : Launch} {E : g_E} (h0 : Nat) (h1 : Nat) (h2 : Nat) (o0 o1 o2 o3 o4 o5 o6 o7 o8 o9 o10 o11 o12 o13 o14 o15 o16 o17 o18 o19 o20 o21 o22 o23 o24 o25 o26 o27 : Value) (v_z_dots : Int32) (v_z_cool : Int32) (v_z_acts : Int32) (v_z_next : Int32) (v_now : Nat → Int32) (v_diary : Nat → Int32) (b1 : Int32) {K : Int32 → Int32 → Int32 → (Nat → Int32) → (Nat → Int32) → Prop} (h : P_X8_pause b1 v_z_dots v_z_cool v_z_acts v_z_next v_now v_diary K) : g_CI l E yX8_pause cX8_pause 4 .int (g_Rm 1 25) [.ref h0, .int b1] (W_X8_pause E h0 h1 h2 o0 o1 o2 o3 o4 o5 o6 o7 o8 o9 o10 o11 o12 o13 o14 o15 o16 o17 o18 o19 o20 o21 o22 o23 o24 o25 o26 o27 v_z_dots v_z_cool v_z_acts v_z_next v_now v_diary) (fun r (u : Int32 × Int32 × (Nat → Int32) × (Nat → Int32)) => K r u.1 u.2.1 u.2.2.1 u.2.2.2) (fun (u : Int32 × Int32 × (Nat → Int32) × (Nat → Int32)) => (W_X8_pause E h0 h1 h2 o0 o1 o2 o3 o4 o5 o6 o7 o8 o9 o10 o11 o12 o13 o14 o15 o16 o17 o18 o19 o20 o21 o22 o23 o24 o25 o26 o27 v_z_dots v_z_cool u.1 u.2.1 u.2.2.1 u.2.2.2)) := by
  refine g_entI RX8 (by decide) rfl (Nat.le_of_ble_eq_true rfl) ?_
  intro Γ X hE hl ret
  subst hE
  subst hl
  unfold P_X8_pause at h
  show g_G Γ (g_Rm 1 25) 4 0 [(0, .ref h0), (1, .int b1)] [] (W_X8_pause (g_env Γ) h0 h1 h2 o0 o1 o2 o3 o4 o5 o6 o7 o8 o9 o10 o11 o12 o13 o14 o15 o16 o17 o18 o19 o20 o21 o22 o23 o24 o25 o26 o27 v_z_dots v_z_cool v_z_acts v_z_next v_now v_diary)
  refine g_iload_n 0 X dX8_pause_0 1 rfl rfl ?_
  refine g_i2l 1 X dX8_pause_1 ?_
  refine g_lconst 2 X (1 : Int64) dX8_pause_2 k_lc_1 ?_
  refine g_ldc2 3 X dX8_pause_3 kc_X8_209 ?_
  refine g_cSI 6 X (st := []) mv_X8_69 dX8_pause_6 [.long (Int32.toInt64 b1), .long (1 : Int64), .long (99 : Int64)] (c_X8_in (Int32.toInt64 b1) (1 : Int64) (99 : Int64) h) [] (fun u : Unit => (W_X8_pause (g_env Γ) h0 h1 h2 o0 o1 o2 o3 o4 o5 o6 o7 o8 o9 o10 o11 o12 o13 o14 o15 o16 o17 o18 o19 o20 o21 o22 o23 o24 o25 o26 o27 v_z_dots v_z_cool v_z_acts v_z_next v_now v_diary)) rfl ⟨(Nat.le_of_ble_eq_true rfl), (Nat.le_of_ble_eq_true rfl)⟩ ⟨rfl, rfl⟩ (Nat.le_of_ble_eq_true rfl) rfl (by decide) (fun _ => rfl) (fun _ => rfl) (fun r1 u h => ?_)
  refine g_if_ne 9 X 15 dX8_pause_9 (by decide) (fun c => ?_) (fun c => ?_)
  · replace h := h.1 c
    refine g_aload_n 15 X dX8_pause_15 0 rfl rfl ?_
    refine g_cVV 16 X (st := []) mv_X8_199 dX8_pause_16 h0 8 [] (c_X8_note h0 h1 h2 o0 o1 (.int v_z_dots) (.int v_z_cool) o2 o3 o4 o5 o6 o7 o8 o9 o10 o11 o12 o13 o14 o15 o16 o17 o18 o19 o20 o21 o22 o23 o24 o25 o26 o27 v_z_acts v_z_next v_now v_diary h) [0, 1, 2] (fun u : Int32 × Int32 × (Nat → Int32) => (W_X8_pause (g_env Γ) h0 h1 h2 o0 o1 o2 o3 o4 o5 o6 o7 o8 o9 o10 o11 o12 o13 o14 o15 o16 o17 o18 o19 o20 o21 o22 o23 o24 o25 o26 o27 v_z_dots v_z_cool u.1 u.2.1 v_now u.2.2)) rfl ⟨(Nat.le_of_ble_eq_true rfl), (Nat.le_of_ble_eq_true rfl)⟩ ⟨rfl, rfl⟩ (Nat.le_of_ble_eq_true rfl) rfl rfl rfl (by decide) (fun _ => rfl) (fun _ => rfl) (fun u h => ?_)
    obtain ⟨v_z_acts_2, v_z_next_3, v_diary_4⟩ := u
    dsimp only at h ⊢
    refine g_iconst 19 X (0 : Int32) dX8_pause_19 k_ic_0 ?_
    refine g_istore_n 20 X [(2, .int (0 : Int32)), (0, .ref h0), (1, .int b1)] dX8_pause_20 rfl (Nat.le_of_ble_eq_true rfl) rfl ?_
    refine g_iconst 21 X (0 : Int32) dX8_pause_21 k_ic_0 ?_
    refine g_istore_n 22 X [(3, .int (0 : Int32)), (2, .int (0 : Int32)), (0, .ref h0), (1, .int b1)] dX8_pause_22 rfl (Nat.le_of_ble_eq_true rfl) rfl ?_
    obtain ⟨n12, h⟩ := h
    refine g_sub [(0, .ref h0), (1, .int b1), (2, .int (0 : Int32)), (3, .int (0 : Int32))] [2, 3, 1, 0] rfl ?_
    refine l_X8_pause_23 X h0 h1 h2 o0 o1 o2 o3 o4 o5 o6 o7 o8 o9 o10 o11 o12 o13 o14 o15 o16 o17 o18 o19 o20 o21 o22 o23 o24 o25 o26 o27 v_z_dots v_z_cool v_z_acts_2 v_z_next_3 v_diary_4 b1 (0 : Int32) (fun v_now_7 h => ?_) n12 (0 : Int32) v_now h
    · refine g_iconst 42 X (0 : Int32) dX8_pause_42 k_ic_0 ?_
      refine g_istore_n 43 X [(3, .int (0 : Int32)), (0, .ref h0), (2, .int (0 : Int32))] dX8_pause_43 rfl (Nat.le_of_ble_eq_true rfl) rfl ?_
      obtain ⟨n11, h⟩ := h
      refine g_sub [(0, .ref h0), (2, .int (0 : Int32)), (3, .int (0 : Int32))] [1, 2, 0] rfl ?_
      refine l_X8_pause_44 X h0 h1 h2 o0 o1 o2 o3 o4 o5 o6 o7 o8 o9 o10 o11 o12 o13 o14 o15 o16 o17 o18 o19 o20 o21 o22 o23 o24 o25 o26 o27 v_z_dots v_z_cool v_z_acts_2 v_z_next_3 v_now_7 v_diary_4 (fun x10 h => ?_) n11 (0 : Int32) (0 : Int32) h
      · refine g_iload_n 67 X dX8_pause_67 0 rfl rfl ?_
        exact ret 68 _ _ (v_z_acts_2, v_z_next_3, v_now_7, v_diary_4) dX8_pause_68 (vp_nar_int _) h
  · replace h := h.2 c
    refine g_bipush 12 X (-2 : Int32) dX8_pause_12 k_bp_m2 ?_
    exact ret 14 _ _ (v_z_acts, v_z_next, v_now, v_diary) dX8_pause_14 (vp_nar_int _) h

def W_X8_maySet (E : g_E) (h0 : Nat) (v_z : Nat → Int32) : va_W := [(h0, .inl (E.2.1, 30, .inl v_z))]
def P_X8_maySet (b1 : Int32) (b2 : Int32) (v_z : Nat → Int32) (K : Int32 → Prop) : Prop := (P_X8_in (Int32.toInt64 b1) (0 : Int64) (4 : Int64) (fun r1 => ((r1 = (0 : Int32) → K (0 : Int32)) ∧ (¬ r1 = (0 : Int32) → ((¬ b1 = (4 : Int32) → (vp_in (((8 : Int32) + b1) + (1 : Int32)) 30 ∧ ((¬ b1 = (0 : Int32) → (vp_in (((8 : Int32) + b1) - (1 : Int32)) 30 ∧ (P_X8_in (Int32.toInt64 b2) (Int32.toInt64 (v_z (Int32.toNatClampNeg (((8 : Int32) + b1) + (1 : Int32))))) (Int32.toInt64 (v_z (Int32.toNatClampNeg (((8 : Int32) + b1) - (1 : Int32))))) (fun r4 => ((r4 = (0 : Int32) → K (0 : Int32)) ∧ (¬ r4 = (0 : Int32) → K (1 : Int32))))))) ∧ (b1 = (0 : Int32) → (P_X8_in (Int32.toInt64 b2) (Int32.toInt64 (v_z (Int32.toNatClampNeg (((8 : Int32) + b1) + (1 : Int32))))) (9 : Int64) (fun r5 => ((r5 = (0 : Int32) → K (0 : Int32)) ∧ (¬ r5 = (0 : Int32) → K (1 : Int32))))))))) ∧ (b1 = (4 : Int32) → ((¬ b1 = (0 : Int32) → (vp_in (((8 : Int32) + b1) - (1 : Int32)) 30 ∧ (P_X8_in (Int32.toInt64 b2) (0 : Int64) (Int32.toInt64 (v_z (Int32.toNatClampNeg (((8 : Int32) + b1) - (1 : Int32))))) (fun r7 => ((r7 = (0 : Int32) → K (0 : Int32)) ∧ (¬ r7 = (0 : Int32) → K (1 : Int32))))))) ∧ (b1 = (0 : Int32) → (P_X8_in (Int32.toInt64 b2) (0 : Int64) (9 : Int64) (fun r8 => ((r8 = (0 : Int32) → K (0 : Int32)) ∧ (¬ r8 = (0 : Int32) → K (1 : Int32)))))))))))))
set_option maxHeartbeats 4000000 in
set_option maxRecDepth 100000 in
theorem c_X8_maySet {l : Launch} {E : g_E} (h0 : Nat) (v_z : Nat → Int32) (b1 : Int32) (b2 : Int32) {K : Int32 → Prop} (h : P_X8_maySet b1 b2 v_z K) : g_CI l E yX8_maySet cX8_maySet 3 .boolean (g_Rm 1 25) [.ref h0, .int b1, .int b2] (W_X8_maySet E h0 v_z) (fun r (u : Unit) => K r) (fun (u : Unit) => (W_X8_maySet E h0 v_z)) := by
  refine g_entI RX8 (by decide) rfl (Nat.le_of_ble_eq_true rfl) ?_
  intro Γ X hE hl ret
  subst hE
  subst hl
  unfold P_X8_maySet at h
  show g_G Γ (g_Rm 1 25) 3 0 [(0, .ref h0), (1, .int b1), (2, .int b2)] [] (W_X8_maySet (g_env Γ) h0 v_z)
  refine g_iload_n 0 X dX8_maySet_0 1 rfl rfl ?_
  refine g_i2l 1 X dX8_maySet_1 ?_
  refine g_lconst 2 X (0 : Int64) dX8_maySet_2 k_lc_0 ?_
  refine g_ldc2 3 X dX8_maySet_3 kc_X8_86 ?_
  refine g_cSI 6 X (st := []) mv_X8_69 dX8_maySet_6 [.long (Int32.toInt64 b1), .long (0 : Int64), .long (4 : Int64)] (c_X8_in (Int32.toInt64 b1) (0 : Int64) (4 : Int64) h) [] (fun u : Unit => (W_X8_maySet (g_env Γ) h0 v_z)) rfl ⟨(Nat.le_of_ble_eq_true rfl), (Nat.le_of_ble_eq_true rfl)⟩ ⟨rfl, rfl⟩ (Nat.le_of_ble_eq_true rfl) rfl (by decide) (fun _ => rfl) (fun _ => rfl) (fun r1 u h => ?_)
  refine g_if_eq 9 X 61 dX8_maySet_9 (by decide) (fun c => ?_) (fun c => ?_)
  · replace h := h.1 c
    refine g_iconst 61 X (0 : Int32) dX8_maySet_61 k_ic_0 ?_
    exact ret 62 _ _ () dX8_maySet_62 (by decide) h
  · replace h := h.2 c
    refine g_iload_n 12 X dX8_maySet_12 2 rfl rfl ?_
    refine g_i2l 13 X dX8_maySet_13 ?_
    refine g_iload_n 14 X dX8_maySet_14 1 rfl rfl ?_
    refine g_iconst 15 X (4 : Int32) dX8_maySet_15 k_ic_4 ?_
    refine g_icmp_ne 16 X 23 dX8_maySet_16 (by decide) (fun c => ?_) (fun c => ?_)
    · replace h := h.1 c
      refine g_aload_n 23 X dX8_maySet_23 0 rfl rfl ?_
      refine g_bipush 24 X (8 : Int32) dX8_maySet_24 k_bp_8 ?_
      refine g_iload_n 26 X dX8_maySet_26 1 rfl rfl ?_
      refine g_iadd 27 X dX8_maySet_27 ?_
      refine g_iconst 28 X (1 : Int32) dX8_maySet_28 k_ic_1 ?_
      refine g_iadd 29 X dX8_maySet_29 ?_
      have f2 := h.1; replace h := h.2
      refine g_iald 30 X dX8_maySet_30 0 rfl rfl f2 ?_
      refine g_i2l 31 X dX8_maySet_31 ?_
      refine g_iload_n 32 X dX8_maySet_32 1 rfl rfl ?_
      refine g_if_ne 33 X 42 dX8_maySet_33 (by decide) (fun c => ?_) (fun c => ?_)
      · replace h := h.1 c
        refine g_aload_n 42 X dX8_maySet_42 0 rfl rfl ?_
        refine g_bipush 43 X (8 : Int32) dX8_maySet_43 k_bp_8 ?_
        refine g_iload_n 45 X dX8_maySet_45 1 rfl rfl ?_
        refine g_iadd 46 X dX8_maySet_46 ?_
        refine g_iconst 47 X (1 : Int32) dX8_maySet_47 k_ic_1 ?_
        refine g_isub 48 X dX8_maySet_48 ?_
        have f3 := h.1; replace h := h.2
        refine g_iald 49 X dX8_maySet_49 0 rfl rfl f3 ?_
        refine g_i2l 50 X dX8_maySet_50 ?_
        refine g_cSI 51 X (st := []) mv_X8_69 dX8_maySet_51 [.long (Int32.toInt64 b2), .long (Int32.toInt64 (v_z (Int32.toNatClampNeg (((8 : Int32) + b1) + (1 : Int32))))), .long (Int32.toInt64 (v_z (Int32.toNatClampNeg (((8 : Int32) + b1) - (1 : Int32)))))] (c_X8_in (Int32.toInt64 b2) (Int32.toInt64 (v_z (Int32.toNatClampNeg (((8 : Int32) + b1) + (1 : Int32))))) (Int32.toInt64 (v_z (Int32.toNatClampNeg (((8 : Int32) + b1) - (1 : Int32))))) h) [] (fun u : Unit => (W_X8_maySet (g_env Γ) h0 v_z)) rfl ⟨(Nat.le_of_ble_eq_true rfl), (Nat.le_of_ble_eq_true rfl)⟩ ⟨rfl, rfl⟩ (Nat.le_of_ble_eq_true rfl) rfl (by decide) (fun _ => rfl) (fun _ => rfl) (fun r4 u h => ?_)
        refine g_if_eq 54 X 61 dX8_maySet_54 (by decide) (fun c => ?_) (fun c => ?_)
        · replace h := h.1 c
          refine g_iconst 61 X (0 : Int32) dX8_maySet_61 k_ic_0 ?_
          exact ret 62 _ _ () dX8_maySet_62 (by decide) h
        · replace h := h.2 c
          refine g_iconst 57 X (1 : Int32) dX8_maySet_57 k_ic_1 ?_
          refine g_goto 58 X 62 dX8_maySet_58 (by decide) ?_
          exact ret 62 _ _ () dX8_maySet_62 (by decide) h
      · replace h := h.2 c
        refine g_ldc2 36 X dX8_maySet_36 kc_X8_91 ?_
        refine g_goto 39 X 51 dX8_maySet_39 (by decide) ?_
        refine g_cSI 51 X (st := []) mv_X8_69 dX8_maySet_51 [.long (Int32.toInt64 b2), .long (Int32.toInt64 (v_z (Int32.toNatClampNeg (((8 : Int32) + b1) + (1 : Int32))))), .long (9 : Int64)] (c_X8_in (Int32.toInt64 b2) (Int32.toInt64 (v_z (Int32.toNatClampNeg (((8 : Int32) + b1) + (1 : Int32))))) (9 : Int64) h) [] (fun u : Unit => (W_X8_maySet (g_env Γ) h0 v_z)) rfl ⟨(Nat.le_of_ble_eq_true rfl), (Nat.le_of_ble_eq_true rfl)⟩ ⟨rfl, rfl⟩ (Nat.le_of_ble_eq_true rfl) rfl (by decide) (fun _ => rfl) (fun _ => rfl) (fun r5 u h => ?_)
        refine g_if_eq 54 X 61 dX8_maySet_54 (by decide) (fun c => ?_) (fun c => ?_)
        · replace h := h.1 c
          refine g_iconst 61 X (0 : Int32) dX8_maySet_61 k_ic_0 ?_
          exact ret 62 _ _ () dX8_maySet_62 (by decide) h
        · replace h := h.2 c
          refine g_iconst 57 X (1 : Int32) dX8_maySet_57 k_ic_1 ?_
          refine g_goto 58 X 62 dX8_maySet_58 (by decide) ?_
          exact ret 62 _ _ () dX8_maySet_62 (by decide) h
    · replace h := h.2 c
      refine g_lconst 19 X (0 : Int64) dX8_maySet_19 k_lc_0 ?_
      refine g_goto 20 X 32 dX8_maySet_20 (by decide) ?_
      refine g_iload_n 32 X dX8_maySet_32 1 rfl rfl ?_
      refine g_if_ne 33 X 42 dX8_maySet_33 (by decide) (fun c => ?_) (fun c => ?_)
      · replace h := h.1 c
        refine g_aload_n 42 X dX8_maySet_42 0 rfl rfl ?_
        refine g_bipush 43 X (8 : Int32) dX8_maySet_43 k_bp_8 ?_
        refine g_iload_n 45 X dX8_maySet_45 1 rfl rfl ?_
        refine g_iadd 46 X dX8_maySet_46 ?_
        refine g_iconst 47 X (1 : Int32) dX8_maySet_47 k_ic_1 ?_
        refine g_isub 48 X dX8_maySet_48 ?_
        have f6 := h.1; replace h := h.2
        refine g_iald 49 X dX8_maySet_49 0 rfl rfl f6 ?_
        refine g_i2l 50 X dX8_maySet_50 ?_
        refine g_cSI 51 X (st := []) mv_X8_69 dX8_maySet_51 [.long (Int32.toInt64 b2), .long (0 : Int64), .long (Int32.toInt64 (v_z (Int32.toNatClampNeg (((8 : Int32) + b1) - (1 : Int32)))))] (c_X8_in (Int32.toInt64 b2) (0 : Int64) (Int32.toInt64 (v_z (Int32.toNatClampNeg (((8 : Int32) + b1) - (1 : Int32))))) h) [] (fun u : Unit => (W_X8_maySet (g_env Γ) h0 v_z)) rfl ⟨(Nat.le_of_ble_eq_true rfl), (Nat.le_of_ble_eq_true rfl)⟩ ⟨rfl, rfl⟩ (Nat.le_of_ble_eq_true rfl) rfl (by decide) (fun _ => rfl) (fun _ => rfl) (fun r7 u h => ?_)
        refine g_if_eq 54 X 61 dX8_maySet_54 (by decide) (fun c => ?_) (fun c => ?_)
        · replace h := h.1 c
          refine g_iconst 61 X (0 : Int32) dX8_maySet_61 k_ic_0 ?_
          exact ret 62 _ _ () dX8_maySet_62 (by decide) h
        · replace h := h.2 c
          refine g_iconst 57 X (1 : Int32) dX8_maySet_57 k_ic_1 ?_
          refine g_goto 58 X 62 dX8_maySet_58 (by decide) ?_
          exact ret 62 _ _ () dX8_maySet_62 (by decide) h
      · replace h := h.2 c
        refine g_ldc2 36 X dX8_maySet_36 kc_X8_91 ?_
        refine g_goto 39 X 51 dX8_maySet_39 (by decide) ?_
        refine g_cSI 51 X (st := []) mv_X8_69 dX8_maySet_51 [.long (Int32.toInt64 b2), .long (0 : Int64), .long (9 : Int64)] (c_X8_in (Int32.toInt64 b2) (0 : Int64) (9 : Int64) h) [] (fun u : Unit => (W_X8_maySet (g_env Γ) h0 v_z)) rfl ⟨(Nat.le_of_ble_eq_true rfl), (Nat.le_of_ble_eq_true rfl)⟩ ⟨rfl, rfl⟩ (Nat.le_of_ble_eq_true rfl) rfl (by decide) (fun _ => rfl) (fun _ => rfl) (fun r8 u h => ?_)
        refine g_if_eq 54 X 61 dX8_maySet_54 (by decide) (fun c => ?_) (fun c => ?_)
        · replace h := h.1 c
          refine g_iconst 61 X (0 : Int32) dX8_maySet_61 k_ic_0 ?_
          exact ret 62 _ _ () dX8_maySet_62 (by decide) h
        · replace h := h.2 c
          refine g_iconst 57 X (1 : Int32) dX8_maySet_57 k_ic_1 ?_
          refine g_goto 58 X 62 dX8_maySet_58 (by decide) ?_
          exact ret 62 _ _ () dX8_maySet_62 (by decide) h

def W_X8_set (E : g_E) (h0 : Nat) (h1 : Nat) (h2 : Nat) (o0 o1 o2 o3 o4 o5 o6 o7 o8 o9 o10 o11 o12 o13 o14 o15 o16 o17 o18 o19 o20 o21 o22 o23 o24 o25 o26 o27 o28 o29 : Value) (v_z_acts : Int32) (v_z_next : Int32) (v_now : Nat → Int32) (v_diary : Nat → Int32) : va_W := [(h0, .inr (8, [o0, o1, o2, o3, o4, o5, o6, o7, .ref h1, o8, .ref h2, .int v_z_acts, .int v_z_next, o9, o10, o11, o12, o13, o14, o15, o16, o17, o18, o19, o20, o21, o22, o23, o24, o25, o26, o27, o28, o29])), (h1, .inl (E.2.1, 30, .inl v_now)), (h2, .inl (E.2.1, 420, .inl v_diary))]
def P_X8_set (b1 : Int32) (b2 : Int32) (v_z_acts : Int32) (v_z_next : Int32) (v_now : Nat → Int32) (v_diary : Nat → Int32) (K : Int32 → Int32 → Int32 → (Nat → Int32) → (Nat → Int32) → Prop) : Prop := (P_X8_maySet b1 b2 v_now (fun r1 => ((¬ r1 = (0 : Int32) → (P_X8_note v_z_acts v_z_next v_now v_diary (fun v_z_acts_2 v_z_next_3 v_diary_4 => (vp_in ((8 : Int32) + b1) 30 ∧ K (v_now (Int32.toNatClampNeg ((8 : Int32) + b1))) v_z_acts_2 v_z_next_3 (upd v_now (Int32.toNatClampNeg ((8 : Int32) + b1)) b2) v_diary_4)))) ∧ (r1 = (0 : Int32) → K (-2 : Int32) v_z_acts v_z_next v_now v_diary))))
set_option maxHeartbeats 4000000 in
set_option maxRecDepth 100000 in
theorem c_X8_set {l : Launch} {E : g_E} (h0 : Nat) (h1 : Nat) (h2 : Nat) (o0 o1 o2 o3 o4 o5 o6 o7 o8 o9 o10 o11 o12 o13 o14 o15 o16 o17 o18 o19 o20 o21 o22 o23 o24 o25 o26 o27 o28 o29 : Value) (v_z_acts : Int32) (v_z_next : Int32) (v_now : Nat → Int32) (v_diary : Nat → Int32) (b1 : Int32) (b2 : Int32) {K : Int32 → Int32 → Int32 → (Nat → Int32) → (Nat → Int32) → Prop} (h : P_X8_set b1 b2 v_z_acts v_z_next v_now v_diary K) : g_CI l E yX8_set cX8_set 4 .int (g_Rm 2 47) [.ref h0, .int b1, .int b2] (W_X8_set E h0 h1 h2 o0 o1 o2 o3 o4 o5 o6 o7 o8 o9 o10 o11 o12 o13 o14 o15 o16 o17 o18 o19 o20 o21 o22 o23 o24 o25 o26 o27 o28 o29 v_z_acts v_z_next v_now v_diary) (fun r (u : Int32 × Int32 × (Nat → Int32) × (Nat → Int32)) => K r u.1 u.2.1 u.2.2.1 u.2.2.2) (fun (u : Int32 × Int32 × (Nat → Int32) × (Nat → Int32)) => (W_X8_set E h0 h1 h2 o0 o1 o2 o3 o4 o5 o6 o7 o8 o9 o10 o11 o12 o13 o14 o15 o16 o17 o18 o19 o20 o21 o22 o23 o24 o25 o26 o27 o28 o29 u.1 u.2.1 u.2.2.1 u.2.2.2)) := by
  refine g_entI RX8 (by decide) rfl (Nat.le_of_ble_eq_true rfl) ?_
  intro Γ X hE hl ret
  subst hE
  subst hl
  unfold P_X8_set at h
  show g_G Γ (g_Rm 2 47) 4 0 [(0, .ref h0), (1, .int b1), (2, .int b2)] [] (W_X8_set (g_env Γ) h0 h1 h2 o0 o1 o2 o3 o4 o5 o6 o7 o8 o9 o10 o11 o12 o13 o14 o15 o16 o17 o18 o19 o20 o21 o22 o23 o24 o25 o26 o27 o28 o29 v_z_acts v_z_next v_now v_diary)
  refine g_aload_n 0 X dX8_set_0 0 rfl rfl ?_
  refine g_get 1 X fa_X8_13 dX8_set_1 0 rfl rfl ?_
  refine g_iload_n 4 X dX8_set_4 1 rfl rfl ?_
  refine g_iload_n 5 X dX8_set_5 2 rfl rfl ?_
  refine g_cSI 6 X (st := []) mv_X8_211 dX8_set_6 [.ref h1, .int b1, .int b2] (c_X8_maySet h1 v_now b1 b2 h) [1] (fun u : Unit => (W_X8_set (g_env Γ) h0 h1 h2 o0 o1 o2 o3 o4 o5 o6 o7 o8 o9 o10 o11 o12 o13 o14 o15 o16 o17 o18 o19 o20 o21 o22 o23 o24 o25 o26 o27 o28 o29 v_z_acts v_z_next v_now v_diary)) rfl ⟨(Nat.le_of_ble_eq_true rfl), (Nat.le_of_ble_eq_true rfl)⟩ ⟨rfl, rfl⟩ (Nat.le_of_ble_eq_true rfl) rfl (by decide) (fun _ => rfl) (fun _ => rfl) (fun r1 u h => ?_)
  refine g_if_ne 9 X 15 dX8_set_9 (by decide) (fun c => ?_) (fun c => ?_)
  · replace h := h.1 c
    refine g_aload_n 15 X dX8_set_15 0 rfl rfl ?_
    refine g_cVV 16 X (st := []) mv_X8_199 dX8_set_16 h0 8 [] (c_X8_note h0 h1 h2 o0 o1 o2 o3 o4 o5 o6 o7 o8 o9 o10 o11 o12 o13 o14 o15 o16 o17 o18 o19 o20 o21 o22 o23 o24 o25 o26 o27 o28 o29 v_z_acts v_z_next v_now v_diary h) [0, 1, 2] (fun u : Int32 × Int32 × (Nat → Int32) => (W_X8_set (g_env Γ) h0 h1 h2 o0 o1 o2 o3 o4 o5 o6 o7 o8 o9 o10 o11 o12 o13 o14 o15 o16 o17 o18 o19 o20 o21 o22 o23 o24 o25 o26 o27 o28 o29 u.1 u.2.1 v_now u.2.2)) rfl ⟨(Nat.le_of_ble_eq_true rfl), (Nat.le_of_ble_eq_true rfl)⟩ ⟨rfl, rfl⟩ (Nat.le_of_ble_eq_true rfl) rfl rfl rfl (by decide) (fun _ => rfl) (fun _ => rfl) (fun u h => ?_)
    obtain ⟨v_z_acts_2, v_z_next_3, v_diary_4⟩ := u
    dsimp only at h ⊢
    refine g_aload_n 19 X dX8_set_19 0 rfl rfl ?_
    refine g_get 20 X fa_X8_13 dX8_set_20 0 rfl rfl ?_
    refine g_bipush 23 X (8 : Int32) dX8_set_23 k_bp_8 ?_
    refine g_iload_n 25 X dX8_set_25 1 rfl rfl ?_
    refine g_iadd 26 X dX8_set_26 ?_
    have f5 := h.1; replace h := h.2
    refine g_iald 27 X dX8_set_27 1 rfl rfl f5 ?_
    refine g_istore_n 28 X [(3, .int (v_now (Int32.toNatClampNeg ((8 : Int32) + b1)))), (0, .ref h0), (1, .int b1), (2, .int b2)] dX8_set_28 rfl (Nat.le_of_ble_eq_true rfl) rfl ?_
    refine g_aload_n 29 X dX8_set_29 1 rfl rfl ?_
    refine g_get 30 X fa_X8_13 dX8_set_30 0 rfl rfl ?_
    refine g_bipush 33 X (8 : Int32) dX8_set_33 k_bp_8 ?_
    refine g_iload_n 35 X dX8_set_35 2 rfl rfl ?_
    refine g_iadd 36 X dX8_set_36 ?_
    refine g_iload_n 37 X dX8_set_37 3 rfl rfl ?_
    refine g_iast 38 X (W_X8_set (g_env Γ) h0 h1 h2 o0 o1 o2 o3 o4 o5 o6 o7 o8 o9 o10 o11 o12 o13 o14 o15 o16 o17 o18 o19 o20 o21 o22 o23 o24 o25 o26 o27 o28 o29 v_z_acts_2 v_z_next_3 (upd v_now (Int32.toNatClampNeg ((8 : Int32) + b1)) b2) v_diary_4) dX8_set_38 1 rfl rfl f5 rfl ?_
    refine g_iload_n 39 X dX8_set_39 0 rfl rfl ?_
    exact ret 40 _ _ (v_z_acts_2, v_z_next_3, (upd v_now (Int32.toNatClampNeg ((8 : Int32) + b1)) b2), v_diary_4) dX8_set_40 (vp_nar_int _) h
  · replace h := h.2 c
    refine g_bipush 12 X (-2 : Int32) dX8_set_12 k_bp_m2 ?_
    exact ret 14 _ _ (v_z_acts, v_z_next, v_now, v_diary) dX8_set_14 (vp_nar_int _) h

def W_X8_ribbon (E : g_E) (h0 : Nat) (h1 : Nat) (h2 : Nat) (o0 o1 o2 o3 o4 o5 o6 o7 o8 o9 o10 o11 o12 o13 o14 o15 o16 o17 o18 o19 o20 o21 o22 o23 o24 o25 o26 o27 o28 o29 : Value) (v_z_acts : Int32) (v_z_next : Int32) (v_now : Nat → Int32) (v_diary : Nat → Int32) : va_W := [(h0, .inr (8, [o0, o1, o2, o3, o4, o5, o6, o7, .ref h1, o8, .ref h2, .int v_z_acts, .int v_z_next, o9, o10, o11, o12, o13, o14, o15, o16, o17, o18, o19, o20, o21, o22, o23, o24, o25, o26, o27, o28, o29])), (h1, .inl (E.2.1, 30, .inl v_now)), (h2, .inl (E.2.1, 420, .inl v_diary))]
def P_X8_ribbon (b1 : Int32) (v_z_acts : Int32) (v_z_next : Int32) (v_now : Nat → Int32) (v_diary : Nat → Int32) (K : Int32 → Int32 → Int32 → (Nat → Int32) → (Nat → Int32) → Prop) : Prop := (P_X8_in (Int32.toInt64 b1) (0 : Int64) (999 : Int64) (fun r1 => ((¬ r1 = (0 : Int32) → (P_X8_note v_z_acts v_z_next v_now v_diary (fun v_z_acts_2 v_z_next_3 v_diary_4 => K (v_now (Int32.toNatClampNeg (24 : Int32))) v_z_acts_2 v_z_next_3 (upd v_now (Int32.toNatClampNeg (24 : Int32)) b1) v_diary_4))) ∧ (r1 = (0 : Int32) → K (-2 : Int32) v_z_acts v_z_next v_now v_diary))))
set_option maxHeartbeats 4000000 in
set_option maxRecDepth 100000 in
theorem c_X8_ribbon {l : Launch} {E : g_E} (h0 : Nat) (h1 : Nat) (h2 : Nat) (o0 o1 o2 o3 o4 o5 o6 o7 o8 o9 o10 o11 o12 o13 o14 o15 o16 o17 o18 o19 o20 o21 o22 o23 o24 o25 o26 o27 o28 o29 : Value) (v_z_acts : Int32) (v_z_next : Int32) (v_now : Nat → Int32) (v_diary : Nat → Int32) (b1 : Int32) {K : Int32 → Int32 → Int32 → (Nat → Int32) → (Nat → Int32) → Prop} (h : P_X8_ribbon b1 v_z_acts v_z_next v_now v_diary K) : g_CI l E yX8_ribbon cX8_ribbon 3 .int (g_Rm 1 25) [.ref h0, .int b1] (W_X8_ribbon E h0 h1 h2 o0 o1 o2 o3 o4 o5 o6 o7 o8 o9 o10 o11 o12 o13 o14 o15 o16 o17 o18 o19 o20 o21 o22 o23 o24 o25 o26 o27 o28 o29 v_z_acts v_z_next v_now v_diary) (fun r (u : Int32 × Int32 × (Nat → Int32) × (Nat → Int32)) => K r u.1 u.2.1 u.2.2.1 u.2.2.2) (fun (u : Int32 × Int32 × (Nat → Int32) × (Nat → Int32)) => (W_X8_ribbon E h0 h1 h2 o0 o1 o2 o3 o4 o5 o6 o7 o8 o9 o10 o11 o12 o13 o14 o15 o16 o17 o18 o19 o20 o21 o22 o23 o24 o25 o26 o27 o28 o29 u.1 u.2.1 u.2.2.1 u.2.2.2)) := by
  refine g_entI RX8 (by decide) rfl (Nat.le_of_ble_eq_true rfl) ?_
  intro Γ X hE hl ret
  subst hE
  subst hl
  unfold P_X8_ribbon at h
  show g_G Γ (g_Rm 1 25) 3 0 [(0, .ref h0), (1, .int b1)] [] (W_X8_ribbon (g_env Γ) h0 h1 h2 o0 o1 o2 o3 o4 o5 o6 o7 o8 o9 o10 o11 o12 o13 o14 o15 o16 o17 o18 o19 o20 o21 o22 o23 o24 o25 o26 o27 o28 o29 v_z_acts v_z_next v_now v_diary)
  refine g_iload_n 0 X dX8_ribbon_0 1 rfl rfl ?_
  refine g_i2l 1 X dX8_ribbon_1 ?_
  refine g_lconst 2 X (0 : Int64) dX8_ribbon_2 k_lc_0 ?_
  refine g_ldc2 3 X dX8_ribbon_3 kc_X8_215 ?_
  refine g_cSI 6 X (st := []) mv_X8_69 dX8_ribbon_6 [.long (Int32.toInt64 b1), .long (0 : Int64), .long (999 : Int64)] (c_X8_in (Int32.toInt64 b1) (0 : Int64) (999 : Int64) h) [] (fun u : Unit => (W_X8_ribbon (g_env Γ) h0 h1 h2 o0 o1 o2 o3 o4 o5 o6 o7 o8 o9 o10 o11 o12 o13 o14 o15 o16 o17 o18 o19 o20 o21 o22 o23 o24 o25 o26 o27 o28 o29 v_z_acts v_z_next v_now v_diary)) rfl ⟨(Nat.le_of_ble_eq_true rfl), (Nat.le_of_ble_eq_true rfl)⟩ ⟨rfl, rfl⟩ (Nat.le_of_ble_eq_true rfl) rfl (by decide) (fun _ => rfl) (fun _ => rfl) (fun r1 u h => ?_)
  refine g_if_ne 9 X 15 dX8_ribbon_9 (by decide) (fun c => ?_) (fun c => ?_)
  · replace h := h.1 c
    refine g_aload_n 15 X dX8_ribbon_15 0 rfl rfl ?_
    refine g_cVV 16 X (st := []) mv_X8_199 dX8_ribbon_16 h0 8 [] (c_X8_note h0 h1 h2 o0 o1 o2 o3 o4 o5 o6 o7 o8 o9 o10 o11 o12 o13 o14 o15 o16 o17 o18 o19 o20 o21 o22 o23 o24 o25 o26 o27 o28 o29 v_z_acts v_z_next v_now v_diary h) [0, 1, 2] (fun u : Int32 × Int32 × (Nat → Int32) => (W_X8_ribbon (g_env Γ) h0 h1 h2 o0 o1 o2 o3 o4 o5 o6 o7 o8 o9 o10 o11 o12 o13 o14 o15 o16 o17 o18 o19 o20 o21 o22 o23 o24 o25 o26 o27 o28 o29 u.1 u.2.1 v_now u.2.2)) rfl ⟨(Nat.le_of_ble_eq_true rfl), (Nat.le_of_ble_eq_true rfl)⟩ ⟨rfl, rfl⟩ (Nat.le_of_ble_eq_true rfl) rfl rfl rfl (by decide) (fun _ => rfl) (fun _ => rfl) (fun u h => ?_)
    obtain ⟨v_z_acts_2, v_z_next_3, v_diary_4⟩ := u
    dsimp only at h ⊢
    refine g_aload_n 19 X dX8_ribbon_19 0 rfl rfl ?_
    refine g_get 20 X fa_X8_13 dX8_ribbon_20 0 rfl rfl ?_
    refine g_bipush 23 X (24 : Int32) dX8_ribbon_23 k_bp_24 ?_
    refine g_iald 25 X dX8_ribbon_25 1 rfl rfl (vp_lit (by decide)) ?_
    refine g_istore_n 26 X [(2, .int (v_now (Int32.toNatClampNeg (24 : Int32)))), (0, .ref h0), (1, .int b1)] dX8_ribbon_26 rfl (Nat.le_of_ble_eq_true rfl) rfl ?_
    refine g_aload_n 27 X dX8_ribbon_27 1 rfl rfl ?_
    refine g_get 28 X fa_X8_13 dX8_ribbon_28 0 rfl rfl ?_
    refine g_bipush 31 X (24 : Int32) dX8_ribbon_31 k_bp_24 ?_
    refine g_iload_n 33 X dX8_ribbon_33 2 rfl rfl ?_
    refine g_iast 34 X (W_X8_ribbon (g_env Γ) h0 h1 h2 o0 o1 o2 o3 o4 o5 o6 o7 o8 o9 o10 o11 o12 o13 o14 o15 o16 o17 o18 o19 o20 o21 o22 o23 o24 o25 o26 o27 o28 o29 v_z_acts_2 v_z_next_3 (upd v_now (Int32.toNatClampNeg (24 : Int32)) b1) v_diary_4) dX8_ribbon_34 1 rfl rfl (vp_lit (by decide)) rfl ?_
    refine g_iload_n 35 X dX8_ribbon_35 0 rfl rfl ?_
    exact ret 36 _ _ (v_z_acts_2, v_z_next_3, (upd v_now (Int32.toNatClampNeg (24 : Int32)) b1), v_diary_4) dX8_ribbon_36 (vp_nar_int _) h
  · replace h := h.2 c
    refine g_bipush 12 X (-2 : Int32) dX8_ribbon_12 k_bp_m2 ?_
    exact ret 14 _ _ (v_z_acts, v_z_next, v_now, v_diary) dX8_ribbon_14 (vp_nar_int _) h

def W_X8_undo (E : g_E) (h0 : Nat) (h1 : Nat) (h2 : Nat) (o0 o1 o2 o3 o4 o5 o6 o7 o8 o9 o10 o11 o12 o13 o14 o15 o16 o17 o18 o19 o20 o21 o22 o23 o24 o25 o26 o27 o28 o29 : Value) (v_z_acts : Int32) (v_z_next : Int32) (v_now : Nat → Int32) (v_diary : Nat → Int32) : va_W := [(h0, .inr (8, [o0, o1, o2, o3, o4, o5, o6, o7, .ref h1, o8, .ref h2, .int v_z_acts, .int v_z_next, o9, o10, o11, o12, o13, o14, o15, o16, o17, o18, o19, o20, o21, o22, o23, o24, o25, o26, o27, o28, o29])), (h1, .inl (E.2.1, 30, .inl v_now)), (h2, .inl (E.2.1, 420, .inl v_diary))]
def P_X8_undo_L38 (v_z_next : Int32) (v_diary : Nat → Int32) (C70 : (Nat → Int32) → Prop) : Nat → Int32 → (Nat → Int32) → Prop
  | 0, _, _ => False
  | n + 1, x1, v_now => (((30 : Int32) ≤ x1 → C70 v_now) ∧ (¬ (30 : Int32) ≤ x1 → (vp_in (((30 : Int32) * v_z_next) + x1) 420 ∧ (vp_in x1 30 ∧ P_X8_undo_L38 v_z_next v_diary C70 n (x1 + (1 : Int32)) (upd v_now (Int32.toNatClampNeg x1) (v_diary (Int32.toNatClampNeg (((30 : Int32) * v_z_next) + x1))))))))
def P_X8_undo (v_z_acts : Int32) (v_z_next : Int32) (v_now : Nat → Int32) (v_diary : Nat → Int32) (K : Int32 → Int32 → Int32 → (Nat → Int32) → Prop) : Prop := ((¬ v_z_acts = (0 : Int32) → (∃ ne : Nat, P_X8_undo_L38 (((v_z_next + (14 : Int32)) - (1 : Int32)) - ((v_z_next + (14 : Int32)) - (1 : Int32)) / (14 : Int32) * (14 : Int32)) v_diary (fun v_now_5 => K (v_z_acts - (1 : Int32)) (v_z_acts - (1 : Int32)) (((v_z_next + (14 : Int32)) - (1 : Int32)) - ((v_z_next + (14 : Int32)) - (1 : Int32)) / (14 : Int32) * (14 : Int32)) v_now_5) ne (0 : Int32) v_now)) ∧ (v_z_acts = (0 : Int32) → K (-3 : Int32) v_z_acts v_z_next v_now))
set_option maxHeartbeats 4000000 in
set_option maxRecDepth 100000 in
theorem l_X8_undo_38 {Γ : g_C} (X : g_X Γ (g_Rm 0 0) cX8_undo RX8 2) (h0 : Nat) (h1 : Nat) (h2 : Nat) (o0 o1 o2 o3 o4 o5 o6 o7 o8 o9 o10 o11 o12 o13 o14 o15 o16 o17 o18 o19 o20 o21 o22 o23 o24 o25 o26 o27 o28 o29 : Value) (v_z_acts : Int32) (v_z_next : Int32) (v_diary : Nat → Int32) {C70 : (Nat → Int32) → Prop} (hC70 : ∀ (v_now : Nat → Int32), C70 v_now → g_G Γ (g_Rm 0 0) 2 70 [(0, .ref h0)] [] (W_X8_undo (g_env Γ) h0 h1 h2 o0 o1 o2 o3 o4 o5 o6 o7 o8 o9 o10 o11 o12 o13 o14 o15 o16 o17 o18 o19 o20 o21 o22 o23 o24 o25 o26 o27 o28 o29 v_z_acts v_z_next v_now v_diary)) : ∀ (n : Nat) (x1 : Int32) (v_now : Nat → Int32), P_X8_undo_L38 v_z_next v_diary C70 n x1 v_now → g_G Γ (g_Rm 0 0) 2 38 [(0, .ref h0), (1, .int x1)] [] (W_X8_undo (g_env Γ) h0 h1 h2 o0 o1 o2 o3 o4 o5 o6 o7 o8 o9 o10 o11 o12 o13 o14 o15 o16 o17 o18 o19 o20 o21 o22 o23 o24 o25 o26 o27 o28 o29 v_z_acts v_z_next v_now v_diary) := by
  intro n
  induction n with
  | zero => intro x1 v_now h; exact False.elim h
  | succ n ih =>
    intro x1 v_now h
    unfold P_X8_undo_L38 at h
    refine g_iload_n 38 X dX8_undo_38 1 rfl rfl ?_
    refine g_bipush 39 X (30 : Int32) dX8_undo_39 k_bp_30 ?_
    refine g_icmp_ge 41 X 70 dX8_undo_41 (by decide) (fun c => ?_) (fun c => ?_)
    · replace h := h.1 c
      refine g_sub [(0, .ref h0)] [0] rfl ?_
      exact hC70 v_now h
    · replace h := h.2 c
      refine g_aload_n 44 X dX8_undo_44 0 rfl rfl ?_
      refine g_get 45 X fa_X8_13 dX8_undo_45 0 rfl rfl ?_
      refine g_iload_n 48 X dX8_undo_48 1 rfl rfl ?_
      refine g_aload_n 49 X dX8_undo_49 0 rfl rfl ?_
      refine g_get 50 X fa_X8_19 dX8_undo_50 0 rfl rfl ?_
      refine g_bipush 53 X (30 : Int32) dX8_undo_53 k_bp_30 ?_
      refine g_aload_n 55 X dX8_undo_55 0 rfl rfl ?_
      refine g_get 56 X fa_X8_193 dX8_undo_56 0 rfl rfl ?_
      refine g_imul 59 X dX8_undo_59 ?_
      refine g_iload_n 60 X dX8_undo_60 1 rfl rfl ?_
      refine g_iadd 61 X dX8_undo_61 ?_
      have f3 := h.1; replace h := h.2
      refine g_iald 62 X dX8_undo_62 2 rfl rfl f3 ?_
      have f4 := h.1; replace h := h.2
      refine g_iast 63 X (W_X8_undo (g_env Γ) h0 h1 h2 o0 o1 o2 o3 o4 o5 o6 o7 o8 o9 o10 o11 o12 o13 o14 o15 o16 o17 o18 o19 o20 o21 o22 o23 o24 o25 o26 o27 o28 o29 v_z_acts v_z_next (upd v_now (Int32.toNatClampNeg x1) (v_diary (Int32.toNatClampNeg (((30 : Int32) * v_z_next) + x1)))) v_diary) dX8_undo_63 1 rfl rfl f4 rfl ?_
      refine g_iinc 64 X (x1 + (1 : Int32)) [(1, .int (x1 + (1 : Int32))), (0, .ref h0)] dX8_undo_64 1 rfl (k_ii_1 _) (Nat.le_of_ble_eq_true rfl) rfl ?_
      refine g_goto 67 X 38 dX8_undo_67 (by decide) ?_
      refine g_sub [(0, .ref h0), (1, .int (x1 + (1 : Int32)))] [1, 0] rfl ?_
      exact ih (x1 + (1 : Int32)) (upd v_now (Int32.toNatClampNeg x1) (v_diary (Int32.toNatClampNeg (((30 : Int32) * v_z_next) + x1)))) h
set_option maxHeartbeats 4000000 in
set_option maxRecDepth 100000 in
theorem c_X8_undo {l : Launch} {E : g_E} (h0 : Nat) (h1 : Nat) (h2 : Nat) (o0 o1 o2 o3 o4 o5 o6 o7 o8 o9 o10 o11 o12 o13 o14 o15 o16 o17 o18 o19 o20 o21 o22 o23 o24 o25 o26 o27 o28 o29 : Value) (v_z_acts : Int32) (v_z_next : Int32) (v_now : Nat → Int32) (v_diary : Nat → Int32) {K : Int32 → Int32 → Int32 → (Nat → Int32) → Prop} (h : P_X8_undo v_z_acts v_z_next v_now v_diary K) : g_CI l E yX8_undo cX8_undo 2 .int (g_Rm 0 0) [.ref h0] (W_X8_undo E h0 h1 h2 o0 o1 o2 o3 o4 o5 o6 o7 o8 o9 o10 o11 o12 o13 o14 o15 o16 o17 o18 o19 o20 o21 o22 o23 o24 o25 o26 o27 o28 o29 v_z_acts v_z_next v_now v_diary) (fun r (u : Int32 × Int32 × (Nat → Int32)) => K r u.1 u.2.1 u.2.2) (fun (u : Int32 × Int32 × (Nat → Int32)) => (W_X8_undo E h0 h1 h2 o0 o1 o2 o3 o4 o5 o6 o7 o8 o9 o10 o11 o12 o13 o14 o15 o16 o17 o18 o19 o20 o21 o22 o23 o24 o25 o26 o27 o28 o29 u.1 u.2.1 u.2.2 v_diary)) := by
  refine g_entI RX8 (by decide) rfl (Nat.le_of_ble_eq_true rfl) ?_
  intro Γ X hE hl ret
  subst hE
  subst hl
  unfold P_X8_undo at h
  show g_G Γ (g_Rm 0 0) 2 0 [(0, .ref h0)] [] (W_X8_undo (g_env Γ) h0 h1 h2 o0 o1 o2 o3 o4 o5 o6 o7 o8 o9 o10 o11 o12 o13 o14 o15 o16 o17 o18 o19 o20 o21 o22 o23 o24 o25 o26 o27 o28 o29 v_z_acts v_z_next v_now v_diary)
  refine g_aload_n 0 X dX8_undo_0 0 rfl rfl ?_
  refine g_get 1 X fa_X8_120 dX8_undo_1 0 rfl rfl ?_
  refine g_if_ne 4 X 10 dX8_undo_4 (by decide) (fun c => ?_) (fun c => ?_)
  · replace h := h.1 c
    refine g_aload_n 10 X dX8_undo_10 0 rfl rfl ?_
    refine g_dup 11 X dX8_undo_11 rfl ?_
    refine g_get 12 X fa_X8_120 dX8_undo_12 0 rfl rfl ?_
    refine g_iconst 15 X (1 : Int32) dX8_undo_15 k_ic_1 ?_
    refine g_isub 16 X dX8_undo_16 ?_
    refine g_put 17 X (W_X8_undo (g_env Γ) h0 h1 h2 o0 o1 o2 o3 o4 o5 o6 o7 o8 o9 o10 o11 o12 o13 o14 o15 o16 o17 o18 o19 o20 o21 o22 o23 o24 o25 o26 o27 o28 o29 (v_z_acts - (1 : Int32)) v_z_next v_now v_diary) fa_X8_120 pa_8_11 dX8_undo_17 0 rfl rfl rfl (Nat.le_of_ble_eq_true rfl) rfl ?_
    refine g_aload_n 20 X dX8_undo_20 0 rfl rfl ?_
    refine g_aload_n 21 X dX8_undo_21 0 rfl rfl ?_
    refine g_get 22 X fa_X8_193 dX8_undo_22 0 rfl rfl ?_
    refine g_bipush 25 X (14 : Int32) dX8_undo_25 k_bp_14 ?_
    refine g_iadd 27 X dX8_undo_27 ?_
    refine g_iconst 28 X (1 : Int32) dX8_undo_28 k_ic_1 ?_
    refine g_isub 29 X dX8_undo_29 ?_
    refine g_bipush 30 X (14 : Int32) dX8_undo_30 k_bp_14 ?_
    refine g_irem 32 X dX8_undo_32 (by decide) ?_
    refine g_put 33 X (W_X8_undo (g_env Γ) h0 h1 h2 o0 o1 o2 o3 o4 o5 o6 o7 o8 o9 o10 o11 o12 o13 o14 o15 o16 o17 o18 o19 o20 o21 o22 o23 o24 o25 o26 o27 o28 o29 (v_z_acts - (1 : Int32)) (((v_z_next + (14 : Int32)) - (1 : Int32)) - ((v_z_next + (14 : Int32)) - (1 : Int32)) / (14 : Int32) * (14 : Int32)) v_now v_diary) fa_X8_193 pa_8_12 dX8_undo_33 0 rfl rfl rfl (Nat.le_of_ble_eq_true rfl) rfl ?_
    refine g_iconst 36 X (0 : Int32) dX8_undo_36 k_ic_0 ?_
    refine g_istore_n 37 X [(1, .int (0 : Int32)), (0, .ref h0)] dX8_undo_37 rfl (Nat.le_of_ble_eq_true rfl) rfl ?_
    obtain ⟨n6, h⟩ := h
    refine g_sub [(0, .ref h0), (1, .int (0 : Int32))] [1, 0] rfl ?_
    refine l_X8_undo_38 X h0 h1 h2 o0 o1 o2 o3 o4 o5 o6 o7 o8 o9 o10 o11 o12 o13 o14 o15 o16 o17 o18 o19 o20 o21 o22 o23 o24 o25 o26 o27 o28 o29 (v_z_acts - (1 : Int32)) (((v_z_next + (14 : Int32)) - (1 : Int32)) - ((v_z_next + (14 : Int32)) - (1 : Int32)) / (14 : Int32) * (14 : Int32)) v_diary (fun v_now_5 h => ?_) n6 (0 : Int32) v_now h
    · refine g_aload_n 70 X dX8_undo_70 0 rfl rfl ?_
      refine g_get 71 X fa_X8_120 dX8_undo_71 0 rfl rfl ?_
      exact ret 74 _ _ ((v_z_acts - (1 : Int32)), (((v_z_next + (14 : Int32)) - (1 : Int32)) - ((v_z_next + (14 : Int32)) - (1 : Int32)) / (14 : Int32) * (14 : Int32)), v_now_5) dX8_undo_74 (vp_nar_int _) h
  · replace h := h.2 c
    refine g_bipush 7 X (-3 : Int32) dX8_undo_7 k_bp_m3 ?_
    exact ret 9 _ _ (v_z_acts, v_z_next, v_now) dX8_undo_9 (vp_nar_int _) h

def W_X8_ahead (E : g_E) (h0 : Nat) (h1 : Nat) (h2 : Nat) (h3 : Nat) (o0 o1 o2 o3 o4 o5 o6 o7 o8 o9 o10 o11 o12 o13 o14 o15 o16 o17 o18 o19 o20 o21 o22 o23 o24 : Value) (v_z_dots : Int32) (v_z_cool : Int32) (v_z_low : Int32) (v_z_high : Int32) (v_z_ghost : Int32) (v_z_dead : Int32) (v_now : Nat → Int32) (v_trial : Nat → Int32) (v_pulses : Nat → Int32) : va_W := [(h0, .inr (8, [o0, o1, .int v_z_dots, .int v_z_cool, o2, .int v_z_low, .int v_z_high, .int v_z_ghost, .ref h1, .ref h2, o3, o4, o5, o6, o7, o8, o9, o10, o11, o12, .int v_z_dead, .ref h3, o13, o14, o15, o16, o17, o18, o19, o20, o21, o22, o23, o24])), (h1, .inl (E.2.1, 30, .inl v_now)), (h2, .inl (E.2.1, 30, .inl v_trial)), (h3, .inl (E.2.1, 8, .inl v_pulses))]
def P_X8_ahead (b1 : Int32) (b2 : Int32) (v_z_dots : Int32) (v_z_cool : Int32) (v_z_low : Int32) (v_z_high : Int32) (v_z_ghost : Int32) (v_z_dead : Int32) (v_now : Nat → Int32) (v_trial : Nat → Int32) (v_pulses : Nat → Int32) (K : Int32 → (Nat → Int32) → (Nat → Int32) → Prop) : Prop := (P_X8_isDot b2 v_z_dots (fun r1 => ((¬ r1 = (0 : Int32) → (P_X8_in (Int32.toInt64 b1) (0 : Int64) (9 : Int64) (fun r2 => ((¬ r2 = (0 : Int32) → (P_X8_copy v_now v_trial (fun v_trial_3 => (P_X8_printLines b1 v_z_dots v_z_cool v_z_low v_z_high v_z_ghost v_z_dead v_pulses v_trial_3 (fun r4 v_pulses_5 v_trial_6 => (vp_in b2 30 ∧ K (v_trial_6 (Int32.toNatClampNeg b2)) v_trial_6 v_pulses_5)))))) ∧ (r2 = (0 : Int32) → K (-2 : Int32) v_trial v_pulses))))) ∧ (r1 = (0 : Int32) → K (-1 : Int32) v_trial v_pulses))))
set_option maxHeartbeats 4000000 in
set_option maxRecDepth 100000 in
theorem c_X8_ahead {l : Launch} {E : g_E} (h0 : Nat) (h1 : Nat) (h2 : Nat) (h3 : Nat) (o0 o1 o2 o3 o4 o5 o6 o7 o8 o9 o10 o11 o12 o13 o14 o15 o16 o17 o18 o19 o20 o21 o22 o23 o24 : Value) (v_z_dots : Int32) (v_z_cool : Int32) (v_z_low : Int32) (v_z_high : Int32) (v_z_ghost : Int32) (v_z_dead : Int32) (v_now : Nat → Int32) (v_trial : Nat → Int32) (v_pulses : Nat → Int32) (b1 : Int32) (b2 : Int32) {K : Int32 → (Nat → Int32) → (Nat → Int32) → Prop} (h : P_X8_ahead b1 b2 v_z_dots v_z_cool v_z_low v_z_high v_z_ghost v_z_dead v_now v_trial v_pulses K) : g_CI l E yX8_ahead cX8_ahead 4 .int (g_Rm 4 93) [.ref h0, .int b1, .int b2] (W_X8_ahead E h0 h1 h2 h3 o0 o1 o2 o3 o4 o5 o6 o7 o8 o9 o10 o11 o12 o13 o14 o15 o16 o17 o18 o19 o20 o21 o22 o23 o24 v_z_dots v_z_cool v_z_low v_z_high v_z_ghost v_z_dead v_now v_trial v_pulses) (fun r (u : (Nat → Int32) × (Nat → Int32)) => K r u.1 u.2) (fun (u : (Nat → Int32) × (Nat → Int32)) => (W_X8_ahead E h0 h1 h2 h3 o0 o1 o2 o3 o4 o5 o6 o7 o8 o9 o10 o11 o12 o13 o14 o15 o16 o17 o18 o19 o20 o21 o22 o23 o24 v_z_dots v_z_cool v_z_low v_z_high v_z_ghost v_z_dead v_now u.1 u.2)) := by
  refine g_entI RX8 (by decide) rfl (Nat.le_of_ble_eq_true rfl) ?_
  intro Γ X hE hl ret
  subst hE
  subst hl
  unfold P_X8_ahead at h
  show g_G Γ (g_Rm 4 93) 4 0 [(0, .ref h0), (1, .int b1), (2, .int b2)] [] (W_X8_ahead (g_env Γ) h0 h1 h2 h3 o0 o1 o2 o3 o4 o5 o6 o7 o8 o9 o10 o11 o12 o13 o14 o15 o16 o17 o18 o19 o20 o21 o22 o23 o24 v_z_dots v_z_cool v_z_low v_z_high v_z_ghost v_z_dead v_now v_trial v_pulses)
  refine g_aload_n 0 X dX8_ahead_0 0 rfl rfl ?_
  refine g_iload_n 1 X dX8_ahead_1 2 rfl rfl ?_
  refine g_cVI 2 X (st := []) mv_X8_188 dX8_ahead_2 h0 8 [.int b2] (c_X8_isDot h0 o0 o1 (.int v_z_cool) o2 (.int v_z_low) (.int v_z_high) (.int v_z_ghost) (.ref h1) (.ref h2) o3 o4 o5 o6 o7 o8 o9 o10 o11 o12 (.int v_z_dead) (.ref h3) o13 o14 o15 o16 o17 o18 o19 o20 o21 o22 o23 o24 v_z_dots b2 h) [0] (fun u : Unit => (W_X8_ahead (g_env Γ) h0 h1 h2 h3 o0 o1 o2 o3 o4 o5 o6 o7 o8 o9 o10 o11 o12 o13 o14 o15 o16 o17 o18 o19 o20 o21 o22 o23 o24 v_z_dots v_z_cool v_z_low v_z_high v_z_ghost v_z_dead v_now v_trial v_pulses)) rfl ⟨(Nat.le_of_ble_eq_true rfl), (Nat.le_of_ble_eq_true rfl)⟩ ⟨rfl, rfl⟩ (Nat.le_of_ble_eq_true rfl) rfl rfl rfl (by decide) (fun _ => rfl) (fun _ => rfl) (fun r1 u h => ?_)
  refine g_if_ne 5 X 10 dX8_ahead_5 (by decide) (fun c => ?_) (fun c => ?_)
  · replace h := h.1 c
    refine g_iload_n 10 X dX8_ahead_10 1 rfl rfl ?_
    refine g_i2l 11 X dX8_ahead_11 ?_
    refine g_lconst 12 X (0 : Int64) dX8_ahead_12 k_lc_0 ?_
    refine g_ldc2 13 X dX8_ahead_13 kc_X8_91 ?_
    refine g_cSI 16 X (st := []) mv_X8_69 dX8_ahead_16 [.long (Int32.toInt64 b1), .long (0 : Int64), .long (9 : Int64)] (c_X8_in (Int32.toInt64 b1) (0 : Int64) (9 : Int64) h) [] (fun u : Unit => (W_X8_ahead (g_env Γ) h0 h1 h2 h3 o0 o1 o2 o3 o4 o5 o6 o7 o8 o9 o10 o11 o12 o13 o14 o15 o16 o17 o18 o19 o20 o21 o22 o23 o24 v_z_dots v_z_cool v_z_low v_z_high v_z_ghost v_z_dead v_now v_trial v_pulses)) rfl ⟨(Nat.le_of_ble_eq_true rfl), (Nat.le_of_ble_eq_true rfl)⟩ ⟨rfl, rfl⟩ (Nat.le_of_ble_eq_true rfl) rfl (by decide) (fun _ => rfl) (fun _ => rfl) (fun r2 u h => ?_)
    refine g_if_ne 19 X 25 dX8_ahead_19 (by decide) (fun c => ?_) (fun c => ?_)
    · replace h := h.1 c
      refine g_aload_n 25 X dX8_ahead_25 0 rfl rfl ?_
      refine g_get 26 X fa_X8_13 dX8_ahead_26 0 rfl rfl ?_
      refine g_aload_n 29 X dX8_ahead_29 0 rfl rfl ?_
      refine g_get 30 X fa_X8_16 dX8_ahead_30 0 rfl rfl ?_
      refine g_cSV 33 X (st := []) mv_X8_168 dX8_ahead_33 [.ref h1, .ref h2] (c_X8_copy h1 h2 v_now v_trial h) [1, 2] (fun u : (Nat → Int32) => (W_X8_ahead (g_env Γ) h0 h1 h2 h3 o0 o1 o2 o3 o4 o5 o6 o7 o8 o9 o10 o11 o12 o13 o14 o15 o16 o17 o18 o19 o20 o21 o22 o23 o24 v_z_dots v_z_cool v_z_low v_z_high v_z_ghost v_z_dead v_now u v_pulses)) rfl ⟨(Nat.le_of_ble_eq_true rfl), (Nat.le_of_ble_eq_true rfl)⟩ ⟨rfl, rfl⟩ (Nat.le_of_ble_eq_true rfl) rfl (by decide) (fun _ => rfl) (fun _ => rfl) (fun u h => ?_)
      obtain ⟨v_trial_3, rfl⟩ : ∃ z, z = u := ⟨_, rfl⟩
      refine g_aload_n 36 X dX8_ahead_36 0 rfl rfl ?_
      refine g_aload_n 37 X dX8_ahead_37 0 rfl rfl ?_
      refine g_get 38 X fa_X8_16 dX8_ahead_38 0 rfl rfl ?_
      refine g_iload_n 41 X dX8_ahead_41 1 rfl rfl ?_
      refine g_cVI 42 X (st := []) mv_X8_205 dX8_ahead_42 h0 8 [.ref h2, .int b1] (c_X8_printLines h0 h3 h2 o0 o1 o2 (.ref h1) (.ref h2) o3 o4 o5 o6 o7 o8 o9 o10 o11 o12 o13 o14 o15 o16 o17 o18 o19 o20 o21 o22 o23 o24 v_z_dots v_z_cool v_z_low v_z_high v_z_ghost v_z_dead v_pulses v_trial_3 b1 h) [0, 3, 2] (fun u : (Nat → Int32) × (Nat → Int32) => (W_X8_ahead (g_env Γ) h0 h1 h2 h3 o0 o1 o2 o3 o4 o5 o6 o7 o8 o9 o10 o11 o12 o13 o14 o15 o16 o17 o18 o19 o20 o21 o22 o23 o24 v_z_dots v_z_cool v_z_low v_z_high v_z_ghost v_z_dead v_now u.2 u.1)) rfl ⟨(Nat.le_of_ble_eq_true rfl), (Nat.le_of_ble_eq_true rfl)⟩ ⟨rfl, rfl⟩ (Nat.le_of_ble_eq_true rfl) rfl rfl rfl (by decide) (fun _ => rfl) (fun _ => rfl) (fun r4 u h => ?_)
      obtain ⟨v_pulses_5, v_trial_6⟩ := u
      dsimp only at h ⊢
      refine g_istore_n 45 X [(3, .int r4), (0, .ref h0), (1, .int b1), (2, .int b2)] dX8_ahead_45 rfl (Nat.le_of_ble_eq_true rfl) rfl ?_
      refine g_aload_n 46 X dX8_ahead_46 1 rfl rfl ?_
      refine g_get 47 X fa_X8_16 dX8_ahead_47 0 rfl rfl ?_
      refine g_iload_n 50 X dX8_ahead_50 3 rfl rfl ?_
      have f7 := h.1; replace h := h.2
      refine g_iald 51 X dX8_ahead_51 2 rfl rfl f7 ?_
      exact ret 52 _ _ (v_trial_6, v_pulses_5) dX8_ahead_52 (vp_nar_int _) h
    · replace h := h.2 c
      refine g_bipush 22 X (-2 : Int32) dX8_ahead_22 k_bp_m2 ?_
      exact ret 24 _ _ (v_trial, v_pulses) dX8_ahead_24 (vp_nar_int _) h
  · replace h := h.2 c
    refine g_iconst 8 X (-1 : Int32) dX8_ahead_8 k_ic_m1 ?_
    exact ret 9 _ _ (v_trial, v_pulses) dX8_ahead_9 (vp_nar_int _) h

def W_X8_fit (E : g_E) (h0 : Nat) (h1 : Nat) (h2 : Nat) (h3 : Nat) (o0 o1 o2 o3 o4 o5 o6 o7 o8 o9 o10 o11 o12 o13 o14 o15 o16 o17 o18 o19 o20 o21 o22 o23 o24 : Value) (v_z_dots : Int32) (v_z_cool : Int32) (v_z_low : Int32) (v_z_high : Int32) (v_z_ghost : Int32) (v_z_dead : Int32) (v_now : Nat → Int32) (v_trial : Nat → Int32) (v_pulses : Nat → Int32) : va_W := [(h0, .inr (8, [o0, o1, .int v_z_dots, .int v_z_cool, o2, .int v_z_low, .int v_z_high, .int v_z_ghost, .ref h1, .ref h2, o3, o4, o5, o6, o7, o8, o9, o10, o11, o12, .int v_z_dead, .ref h3, o13, o14, o15, o16, o17, o18, o19, o20, o21, o22, o23, o24])), (h1, .inl (E.2.1, 30, .inl v_now)), (h2, .inl (E.2.1, 30, .inl v_trial)), (h3, .inl (E.2.1, 8, .inl v_pulses))]
def P_X8_fit_L23 (v_z_dots : Int32) (v_z_cool : Int32) (v_z_low : Int32) (v_z_high : Int32) (v_z_ghost : Int32) (v_z_dead : Int32) (v_now : Nat → Int32) (x1 : Int32) (C95 : Int32 → (Nat → Int32) → (Nat → Int32) → Prop) : Nat → Int32 → Int32 → Int32 → (Nat → Int32) → (Nat → Int32) → Prop
  | 0, _, _, _, _, _ => False
  | n + 1, x2, x3, x4, v_trial, v_pulses => (((10 : Int32) ≤ x4 → C95 x2 v_trial v_pulses) ∧ (¬ (10 : Int32) ≤ x4 → (P_X8_maySet x1 x4 v_now (fun r2 => ((r2 = (0 : Int32) → P_X8_fit_L23 v_z_dots v_z_cool v_z_low v_z_high v_z_ghost v_z_dead v_now x1 C95 n x2 x3 (x4 + (1 : Int32)) v_trial v_pulses) ∧ (¬ r2 = (0 : Int32) → (P_X8_copy v_now v_trial (fun v_trial_3 => (vp_in ((8 : Int32) + x1) 30 ∧ (P_X8_rightOfAll v_z_dots v_z_cool v_z_low v_z_high v_z_ghost v_z_dead (upd v_trial_3 (Int32.toNatClampNeg ((8 : Int32) + x1)) x4) v_pulses (fun r5 v_trial_6 v_pulses_7 => ((x2 = (-9 : Int32) → P_X8_fit_L23 v_z_dots v_z_cool v_z_low v_z_high v_z_ghost v_z_dead v_now x1 C95 n x4 r5 (x4 + (1 : Int32)) v_trial_6 v_pulses_7) ∧ (¬ x2 = (-9 : Int32) → ((r5 ≤ x3 → P_X8_fit_L23 v_z_dots v_z_cool v_z_low v_z_high v_z_ghost v_z_dead v_now x1 C95 n x2 x3 (x4 + (1 : Int32)) v_trial_6 v_pulses_7) ∧ (¬ r5 ≤ x3 → P_X8_fit_L23 v_z_dots v_z_cool v_z_low v_z_high v_z_ghost v_z_dead v_now x1 C95 n x4 r5 (x4 + (1 : Int32)) v_trial_6 v_pulses_7)))))))))))))))
def P_X8_fit (b1 : Int32) (v_z_dots : Int32) (v_z_cool : Int32) (v_z_low : Int32) (v_z_high : Int32) (v_z_ghost : Int32) (v_z_dead : Int32) (v_now : Nat → Int32) (v_trial : Nat → Int32) (v_pulses : Nat → Int32) (K : Int32 → (Nat → Int32) → (Nat → Int32) → Prop) : Prop := (P_X8_in (Int32.toInt64 b1) (0 : Int64) (4 : Int64) (fun r1 => ((¬ r1 = (0 : Int32) → (∃ ne : Nat, P_X8_fit_L23 v_z_dots v_z_cool v_z_low v_z_high v_z_ghost v_z_dead v_now b1 (fun x14 v_trial_15 v_pulses_16 => K x14 v_trial_15 v_pulses_16) ne (-9 : Int32) (0 : Int32) (0 : Int32) v_trial v_pulses)) ∧ (r1 = (0 : Int32) → K (-2 : Int32) v_trial v_pulses))))
set_option maxHeartbeats 4000000 in
set_option maxRecDepth 100000 in
theorem l_X8_fit_23 {Γ : g_C} (X : g_X Γ (g_Rm 4 90) cX8_fit RX8 6) (h0 : Nat) (h1 : Nat) (h2 : Nat) (h3 : Nat) (o0 o1 o2 o3 o4 o5 o6 o7 o8 o9 o10 o11 o12 o13 o14 o15 o16 o17 o18 o19 o20 o21 o22 o23 o24 : Value) (v_z_dots : Int32) (v_z_cool : Int32) (v_z_low : Int32) (v_z_high : Int32) (v_z_ghost : Int32) (v_z_dead : Int32) (v_now : Nat → Int32) (x1 : Int32) {C95 : Int32 → (Nat → Int32) → (Nat → Int32) → Prop} (hC95 : ∀ (x2 : Int32) (v_trial : Nat → Int32) (v_pulses : Nat → Int32), C95 x2 v_trial v_pulses → g_G Γ (g_Rm 4 90) 6 95 [(2, .int x2)] [] (W_X8_fit (g_env Γ) h0 h1 h2 h3 o0 o1 o2 o3 o4 o5 o6 o7 o8 o9 o10 o11 o12 o13 o14 o15 o16 o17 o18 o19 o20 o21 o22 o23 o24 v_z_dots v_z_cool v_z_low v_z_high v_z_ghost v_z_dead v_now v_trial v_pulses)) : ∀ (n : Nat) (x2 : Int32) (x3 : Int32) (x4 : Int32) (v_trial : Nat → Int32) (v_pulses : Nat → Int32), P_X8_fit_L23 v_z_dots v_z_cool v_z_low v_z_high v_z_ghost v_z_dead v_now x1 C95 n x2 x3 x4 v_trial v_pulses → g_G Γ (g_Rm 4 90) 6 23 [(0, .ref h0), (1, .int x1), (2, .int x2), (3, .int x3), (4, .int x4)] [] (W_X8_fit (g_env Γ) h0 h1 h2 h3 o0 o1 o2 o3 o4 o5 o6 o7 o8 o9 o10 o11 o12 o13 o14 o15 o16 o17 o18 o19 o20 o21 o22 o23 o24 v_z_dots v_z_cool v_z_low v_z_high v_z_ghost v_z_dead v_now v_trial v_pulses) := by
  intro n
  induction n with
  | zero => intro x2 x3 x4 v_trial v_pulses h; exact False.elim h
  | succ n ih =>
    intro x2 x3 x4 v_trial v_pulses h
    unfold P_X8_fit_L23 at h
    refine g_iload 23 X dX8_fit_23 4 rfl ?_
    refine g_bipush 25 X (10 : Int32) dX8_fit_25 k_bp_10 ?_
    refine g_icmp_ge 27 X 95 dX8_fit_27 (by decide) (fun c => ?_) (fun c => ?_)
    · replace h := h.1 c
      refine g_sub [(2, .int x2)] [2] rfl ?_
      exact hC95 x2 v_trial v_pulses h
    · replace h := h.2 c
      refine g_aload_n 30 X dX8_fit_30 0 rfl rfl ?_
      refine g_get 31 X fa_X8_13 dX8_fit_31 0 rfl rfl ?_
      refine g_iload_n 34 X dX8_fit_34 1 rfl rfl ?_
      refine g_iload 35 X dX8_fit_35 4 rfl ?_
      refine g_cSI 37 X (st := []) mv_X8_211 dX8_fit_37 [.ref h1, .int x1, .int x4] (c_X8_maySet h1 v_now x1 x4 h) [1] (fun u : Unit => (W_X8_fit (g_env Γ) h0 h1 h2 h3 o0 o1 o2 o3 o4 o5 o6 o7 o8 o9 o10 o11 o12 o13 o14 o15 o16 o17 o18 o19 o20 o21 o22 o23 o24 v_z_dots v_z_cool v_z_low v_z_high v_z_ghost v_z_dead v_now v_trial v_pulses)) rfl ⟨(Nat.le_of_ble_eq_true rfl), (Nat.le_of_ble_eq_true rfl)⟩ ⟨rfl, rfl⟩ (Nat.le_of_ble_eq_true rfl) rfl (by decide) (fun _ => rfl) (fun _ => rfl) (fun r8 u h => ?_)
      refine g_if_eq 40 X 89 dX8_fit_40 (by decide) (fun c => ?_) (fun c => ?_)
      · replace h := h.1 c
        refine g_iinc 89 X (x4 + (1 : Int32)) [(4, .int (x4 + (1 : Int32))), (0, .ref h0), (1, .int x1), (2, .int x2), (3, .int x3)] dX8_fit_89 4 rfl (k_ii_1 _) (Nat.le_of_ble_eq_true rfl) rfl ?_
        refine g_goto 92 X 23 dX8_fit_92 (by decide) ?_
        refine g_sub [(0, .ref h0), (1, .int x1), (2, .int x2), (3, .int x3), (4, .int (x4 + (1 : Int32)))] [1, 2, 3, 4, 0] rfl ?_
        exact ih x2 x3 (x4 + (1 : Int32)) v_trial v_pulses h
      · replace h := h.2 c
        refine g_aload_n 43 X dX8_fit_43 0 rfl rfl ?_
        refine g_get 44 X fa_X8_13 dX8_fit_44 0 rfl rfl ?_
        refine g_aload_n 47 X dX8_fit_47 0 rfl rfl ?_
        refine g_get 48 X fa_X8_16 dX8_fit_48 0 rfl rfl ?_
        refine g_cSV 51 X (st := []) mv_X8_168 dX8_fit_51 [.ref h1, .ref h2] (c_X8_copy h1 h2 v_now v_trial h) [1, 2] (fun u : (Nat → Int32) => (W_X8_fit (g_env Γ) h0 h1 h2 h3 o0 o1 o2 o3 o4 o5 o6 o7 o8 o9 o10 o11 o12 o13 o14 o15 o16 o17 o18 o19 o20 o21 o22 o23 o24 v_z_dots v_z_cool v_z_low v_z_high v_z_ghost v_z_dead v_now u v_pulses)) rfl ⟨(Nat.le_of_ble_eq_true rfl), (Nat.le_of_ble_eq_true rfl)⟩ ⟨rfl, rfl⟩ (Nat.le_of_ble_eq_true rfl) rfl (by decide) (fun _ => rfl) (fun _ => rfl) (fun u h => ?_)
        obtain ⟨v_trial_9, rfl⟩ : ∃ z, z = u := ⟨_, rfl⟩
        refine g_aload_n 54 X dX8_fit_54 0 rfl rfl ?_
        refine g_get 55 X fa_X8_16 dX8_fit_55 0 rfl rfl ?_
        refine g_bipush 58 X (8 : Int32) dX8_fit_58 k_bp_8 ?_
        refine g_iload_n 60 X dX8_fit_60 1 rfl rfl ?_
        refine g_iadd 61 X dX8_fit_61 ?_
        refine g_iload 62 X dX8_fit_62 4 rfl ?_
        have f10 := h.1; replace h := h.2
        refine g_iast 64 X (W_X8_fit (g_env Γ) h0 h1 h2 h3 o0 o1 o2 o3 o4 o5 o6 o7 o8 o9 o10 o11 o12 o13 o14 o15 o16 o17 o18 o19 o20 o21 o22 o23 o24 v_z_dots v_z_cool v_z_low v_z_high v_z_ghost v_z_dead v_now (upd v_trial_9 (Int32.toNatClampNeg ((8 : Int32) + x1)) x4) v_pulses) dX8_fit_64 2 rfl rfl f10 rfl ?_
        refine g_aload_n 65 X dX8_fit_65 0 rfl rfl ?_
        refine g_cVI 66 X (st := []) mv_X8_217 dX8_fit_66 h0 8 [] (c_X8_rightOfAll h0 h2 h3 o0 o1 o2 (.ref h1) o3 o4 o5 o6 o7 o8 o9 o10 o11 o12 o13 o14 o15 o16 o17 o18 o19 o20 o21 o22 o23 o24 v_z_dots v_z_cool v_z_low v_z_high v_z_ghost v_z_dead (upd v_trial_9 (Int32.toNatClampNeg ((8 : Int32) + x1)) x4) v_pulses h) [0, 2, 3] (fun u : (Nat → Int32) × (Nat → Int32) => (W_X8_fit (g_env Γ) h0 h1 h2 h3 o0 o1 o2 o3 o4 o5 o6 o7 o8 o9 o10 o11 o12 o13 o14 o15 o16 o17 o18 o19 o20 o21 o22 o23 o24 v_z_dots v_z_cool v_z_low v_z_high v_z_ghost v_z_dead v_now u.1 u.2)) rfl ⟨(Nat.le_of_ble_eq_true rfl), (Nat.le_of_ble_eq_true rfl)⟩ ⟨rfl, rfl⟩ (Nat.le_of_ble_eq_true rfl) rfl rfl rfl (by decide) (fun _ => rfl) (fun _ => rfl) (fun r11 u h => ?_)
        obtain ⟨v_trial_12, v_pulses_13⟩ := u
        dsimp only at h ⊢
        refine g_istore 69 X [(5, .int r11), (0, .ref h0), (1, .int x1), (2, .int x2), (3, .int x3), (4, .int x4)] dX8_fit_69 (Nat.le_of_ble_eq_true rfl) rfl ?_
        refine g_iload_n 71 X dX8_fit_71 3 rfl rfl ?_
        refine g_bipush 72 X (-9 : Int32) dX8_fit_72 k_bp_m9 ?_
        refine g_icmp_eq 74 X 83 dX8_fit_74 (by decide) (fun c => ?_) (fun c => ?_)
        · replace h := h.1 c
          refine g_iload 83 X dX8_fit_83 5 rfl ?_
          refine g_istore_n 85 X [(2, .int x4), (5, .int r11), (0, .ref h0), (1, .int x1), (3, .int x3), (4, .int x4)] dX8_fit_85 rfl (Nat.le_of_ble_eq_true rfl) rfl ?_
          refine g_iload 86 X dX8_fit_86 1 rfl ?_
          refine g_istore_n 88 X [(3, .int r11), (2, .int x4), (5, .int r11), (0, .ref h0), (1, .int x1), (4, .int x4)] dX8_fit_88 rfl (Nat.le_of_ble_eq_true rfl) rfl ?_
          refine g_iinc 89 X (x4 + (1 : Int32)) [(4, .int (x4 + (1 : Int32))), (3, .int r11), (2, .int x4), (5, .int r11), (0, .ref h0), (1, .int x1)] dX8_fit_89 5 rfl (k_ii_1 _) (Nat.le_of_ble_eq_true rfl) rfl ?_
          refine g_goto 92 X 23 dX8_fit_92 (by decide) ?_
          refine g_sub [(0, .ref h0), (1, .int x1), (2, .int x4), (3, .int r11), (4, .int (x4 + (1 : Int32)))] [4, 5, 2, 1, 0] rfl ?_
          exact ih x4 r11 (x4 + (1 : Int32)) v_trial_12 v_pulses_13 h
        · replace h := h.2 c
          refine g_iload 77 X dX8_fit_77 0 rfl ?_
          refine g_iload_n 79 X dX8_fit_79 4 rfl rfl ?_
          refine g_icmp_le 80 X 89 dX8_fit_80 (by decide) (fun c => ?_) (fun c => ?_)
          · replace h := h.1 c
            refine g_iinc 89 X (x4 + (1 : Int32)) [(4, .int (x4 + (1 : Int32))), (5, .int r11), (0, .ref h0), (1, .int x1), (2, .int x2), (3, .int x3)] dX8_fit_89 5 rfl (k_ii_1 _) (Nat.le_of_ble_eq_true rfl) rfl ?_
            refine g_goto 92 X 23 dX8_fit_92 (by decide) ?_
            refine g_sub [(0, .ref h0), (1, .int x1), (2, .int x2), (3, .int x3), (4, .int (x4 + (1 : Int32)))] [2, 3, 4, 5, 0] rfl ?_
            exact ih x2 x3 (x4 + (1 : Int32)) v_trial_12 v_pulses_13 h
          · replace h := h.2 c
            refine g_iload 83 X dX8_fit_83 5 rfl ?_
            refine g_istore_n 85 X [(2, .int x4), (5, .int r11), (0, .ref h0), (1, .int x1), (3, .int x3), (4, .int x4)] dX8_fit_85 rfl (Nat.le_of_ble_eq_true rfl) rfl ?_
            refine g_iload 86 X dX8_fit_86 1 rfl ?_
            refine g_istore_n 88 X [(3, .int r11), (2, .int x4), (5, .int r11), (0, .ref h0), (1, .int x1), (4, .int x4)] dX8_fit_88 rfl (Nat.le_of_ble_eq_true rfl) rfl ?_
            refine g_iinc 89 X (x4 + (1 : Int32)) [(4, .int (x4 + (1 : Int32))), (3, .int r11), (2, .int x4), (5, .int r11), (0, .ref h0), (1, .int x1)] dX8_fit_89 5 rfl (k_ii_1 _) (Nat.le_of_ble_eq_true rfl) rfl ?_
            refine g_goto 92 X 23 dX8_fit_92 (by decide) ?_
            refine g_sub [(0, .ref h0), (1, .int x1), (2, .int x4), (3, .int r11), (4, .int (x4 + (1 : Int32)))] [4, 5, 2, 1, 0] rfl ?_
            exact ih x4 r11 (x4 + (1 : Int32)) v_trial_12 v_pulses_13 h
set_option maxHeartbeats 4000000 in
set_option maxRecDepth 100000 in
theorem c_X8_fit {l : Launch} {E : g_E} (h0 : Nat) (h1 : Nat) (h2 : Nat) (h3 : Nat) (o0 o1 o2 o3 o4 o5 o6 o7 o8 o9 o10 o11 o12 o13 o14 o15 o16 o17 o18 o19 o20 o21 o22 o23 o24 : Value) (v_z_dots : Int32) (v_z_cool : Int32) (v_z_low : Int32) (v_z_high : Int32) (v_z_ghost : Int32) (v_z_dead : Int32) (v_now : Nat → Int32) (v_trial : Nat → Int32) (v_pulses : Nat → Int32) (b1 : Int32) {K : Int32 → (Nat → Int32) → (Nat → Int32) → Prop} (h : P_X8_fit b1 v_z_dots v_z_cool v_z_low v_z_high v_z_ghost v_z_dead v_now v_trial v_pulses K) : g_CI l E yX8_fit cX8_fit 6 .int (g_Rm 4 90) [.ref h0, .int b1] (W_X8_fit E h0 h1 h2 h3 o0 o1 o2 o3 o4 o5 o6 o7 o8 o9 o10 o11 o12 o13 o14 o15 o16 o17 o18 o19 o20 o21 o22 o23 o24 v_z_dots v_z_cool v_z_low v_z_high v_z_ghost v_z_dead v_now v_trial v_pulses) (fun r (u : (Nat → Int32) × (Nat → Int32)) => K r u.1 u.2) (fun (u : (Nat → Int32) × (Nat → Int32)) => (W_X8_fit E h0 h1 h2 h3 o0 o1 o2 o3 o4 o5 o6 o7 o8 o9 o10 o11 o12 o13 o14 o15 o16 o17 o18 o19 o20 o21 o22 o23 o24 v_z_dots v_z_cool v_z_low v_z_high v_z_ghost v_z_dead v_now u.1 u.2)) := by
  refine g_entI RX8 (by decide) rfl (Nat.le_of_ble_eq_true rfl) ?_
  intro Γ X hE hl ret
  subst hE
  subst hl
  unfold P_X8_fit at h
  show g_G Γ (g_Rm 4 90) 6 0 [(0, .ref h0), (1, .int b1)] [] (W_X8_fit (g_env Γ) h0 h1 h2 h3 o0 o1 o2 o3 o4 o5 o6 o7 o8 o9 o10 o11 o12 o13 o14 o15 o16 o17 o18 o19 o20 o21 o22 o23 o24 v_z_dots v_z_cool v_z_low v_z_high v_z_ghost v_z_dead v_now v_trial v_pulses)
  refine g_iload_n 0 X dX8_fit_0 1 rfl rfl ?_
  refine g_i2l 1 X dX8_fit_1 ?_
  refine g_lconst 2 X (0 : Int64) dX8_fit_2 k_lc_0 ?_
  refine g_ldc2 3 X dX8_fit_3 kc_X8_86 ?_
  refine g_cSI 6 X (st := []) mv_X8_69 dX8_fit_6 [.long (Int32.toInt64 b1), .long (0 : Int64), .long (4 : Int64)] (c_X8_in (Int32.toInt64 b1) (0 : Int64) (4 : Int64) h) [] (fun u : Unit => (W_X8_fit (g_env Γ) h0 h1 h2 h3 o0 o1 o2 o3 o4 o5 o6 o7 o8 o9 o10 o11 o12 o13 o14 o15 o16 o17 o18 o19 o20 o21 o22 o23 o24 v_z_dots v_z_cool v_z_low v_z_high v_z_ghost v_z_dead v_now v_trial v_pulses)) rfl ⟨(Nat.le_of_ble_eq_true rfl), (Nat.le_of_ble_eq_true rfl)⟩ ⟨rfl, rfl⟩ (Nat.le_of_ble_eq_true rfl) rfl (by decide) (fun _ => rfl) (fun _ => rfl) (fun r1 u h => ?_)
  refine g_if_ne 9 X 15 dX8_fit_9 (by decide) (fun c => ?_) (fun c => ?_)
  · replace h := h.1 c
    refine g_bipush 15 X (-9 : Int32) dX8_fit_15 k_bp_m9 ?_
    refine g_istore_n 17 X [(2, .int (-9 : Int32)), (0, .ref h0), (1, .int b1)] dX8_fit_17 rfl (Nat.le_of_ble_eq_true rfl) rfl ?_
    refine g_iconst 18 X (0 : Int32) dX8_fit_18 k_ic_0 ?_
    refine g_istore_n 19 X [(3, .int (0 : Int32)), (2, .int (-9 : Int32)), (0, .ref h0), (1, .int b1)] dX8_fit_19 rfl (Nat.le_of_ble_eq_true rfl) rfl ?_
    refine g_iconst 20 X (0 : Int32) dX8_fit_20 k_ic_0 ?_
    refine g_istore 21 X [(4, .int (0 : Int32)), (3, .int (0 : Int32)), (2, .int (-9 : Int32)), (0, .ref h0), (1, .int b1)] dX8_fit_21 (Nat.le_of_ble_eq_true rfl) rfl ?_
    obtain ⟨n17, h⟩ := h
    refine g_sub [(0, .ref h0), (1, .int b1), (2, .int (-9 : Int32)), (3, .int (0 : Int32)), (4, .int (0 : Int32))] [3, 4, 2, 1, 0] rfl ?_
    refine l_X8_fit_23 X h0 h1 h2 h3 o0 o1 o2 o3 o4 o5 o6 o7 o8 o9 o10 o11 o12 o13 o14 o15 o16 o17 o18 o19 o20 o21 o22 o23 o24 v_z_dots v_z_cool v_z_low v_z_high v_z_ghost v_z_dead v_now b1 (fun x14 v_trial_15 v_pulses_16 h => ?_) n17 (-9 : Int32) (0 : Int32) (0 : Int32) v_trial v_pulses h
    · refine g_iload_n 95 X dX8_fit_95 0 rfl rfl ?_
      exact ret 96 _ _ (v_trial_15, v_pulses_16) dX8_fit_96 (vp_nar_int _) h
  · replace h := h.2 c
    refine g_bipush 12 X (-2 : Int32) dX8_fit_12 k_bp_m2 ?_
    exact ret 14 _ _ (v_trial, v_pulses) dX8_fit_14 (vp_nar_int _) h

def W_X8_judged (E : g_E) (h0 : Nat) (h1 : Nat) (h2 : Nat) (o0 o1 o2 o3 o4 o5 o6 o7 o8 o9 o10 o11 o12 o13 o14 o15 o16 o17 o18 o19 o20 o21 o22 o23 o24 o25 : Value) (v_z_dots : Int32) (v_z_cool : Int32) (v_z_low : Int32) (v_z_high : Int32) (v_z_ghost : Int32) (v_z_dead : Int32) (v_trial : Nat → Int32) (v_pulses : Nat → Int32) : va_W := [(h0, .inr (8, [o0, o1, .int v_z_dots, .int v_z_cool, o2, .int v_z_low, .int v_z_high, .int v_z_ghost, o3, .ref h1, o4, o5, o6, o7, o8, o9, o10, o11, o12, o13, .int v_z_dead, .ref h2, o14, o15, o16, o17, o18, o19, o20, o21, o22, o23, o24, o25])), (h1, .inl (E.2.1, 30, .inl v_trial)), (h2, .inl (E.2.1, 8, .inl v_pulses))]
def P_X8_judged_L118 (v_z_dots : Int32) (v_z_cool : Int32) (x3 : Int32) (x4 : Int32) (C143 : (Nat → Int32) → Prop) : Nat → Int32 → (Nat → Int32) → Prop
  | 0, _, _ => False
  | n + 1, x5, v_trial => ((x4 ≤ x5 → C143 v_trial) ∧ (¬ x4 ≤ x5 → ((¬ x3 = (0 : Int32) → C143 v_trial) ∧ (x3 = (0 : Int32) → (P_X8_coolOn v_z_dots v_z_cool v_trial (fun v_trial_7 => P_X8_judged_L118 v_z_dots v_z_cool x3 x4 C143 n (x5 + (1 : Int32)) v_trial_7))))))
def P_X8_judged (b1 : Int32) (b2 : Int32) (v_z_dots : Int32) (v_z_cool : Int32) (v_z_low : Int32) (v_z_high : Int32) (v_z_ghost : Int32) (v_z_dead : Int32) (v_trial : Nat → Int32) (v_pulses : Nat → Int32) (K : Int32 → (Nat → Int32) → (Nat → Int32) → Prop) : Prop := (((b1.toInt < 1 ∨ 1 + (6 : Nat) ≤ b1.toInt) → K (0 : Int32) v_trial v_pulses) ∧ (b1 = (1 : Int32) → (P_X8_isLine b2 v_z_dots (fun r1 => ((r1 = (0 : Int32) → K (0 : Int32) v_trial v_pulses) ∧ (¬ r1 = (0 : Int32) → ((¬ (v_trial (Int32.toNatClampNeg (21 : Int32))) = (8 : Int32) → (P_X8_putOn b2 v_trial (fun v_trial_2 => K (1 : Int32) v_trial_2 v_pulses))) ∧ ((v_trial (Int32.toNatClampNeg (21 : Int32))) = (8 : Int32) → K (0 : Int32) v_trial v_pulses))))))) ∧ (b1 = (2 : Int32) → (P_X8_in (Int32.toInt64 b2) (1 : Int64) (9 : Int64) (fun r3 => ((r3 = (0 : Int32) → K (0 : Int32) v_trial v_pulses) ∧ (¬ r3 = (0 : Int32) → (P_X8_printLines b2 v_z_dots v_z_cool v_z_low v_z_high v_z_ghost v_z_dead v_pulses v_trial (fun r4 v_pulses_5 v_trial_6 => ((¬ r4 = b2 → K (0 : Int32) v_trial_6 v_pulses_5) ∧ (r4 = b2 → K (1 : Int32) v_trial_6 v_pulses_5))))))))) ∧ (b1 = (3 : Int32) → (∃ ne : Nat, P_X8_judged_L118 v_z_dots v_z_cool (b2 / (100 : Int32)) (b2 - b2 / (100 : Int32) * (100 : Int32)) (fun v_trial_9 => ((¬ (b2 / (100 : Int32)) = (0 : Int32) → K (0 : Int32) v_trial_9 v_pulses) ∧ ((b2 / (100 : Int32)) = (0 : Int32) → (((b2 - b2 / (100 : Int32) * (100 : Int32)) ≤ (0 : Int32) → K (0 : Int32) v_trial_9 v_pulses) ∧ (¬ (b2 - b2 / (100 : Int32) * (100 : Int32)) ≤ (0 : Int32) → K (1 : Int32) v_trial_9 v_pulses))))) ne (0 : Int32) v_trial)) ∧ (b1 = (4 : Int32) → ((¬ (v_trial (Int32.toNatClampNeg (25 : Int32))) = b2 → K (0 : Int32) v_trial v_pulses) ∧ ((v_trial (Int32.toNatClampNeg (25 : Int32))) = b2 → K (1 : Int32) v_trial v_pulses))) ∧ (b1 = (5 : Int32) → (P_X8_isDot (b2 / (100 : Int32)) v_z_dots (fun r11 => ((r11 = (0 : Int32) → K (0 : Int32) v_trial v_pulses) ∧ (¬ r11 = (0 : Int32) → (((2 : Int32) ≤ (b2 - b2 / (100 : Int32) * (100 : Int32)) → K (0 : Int32) v_trial v_pulses) ∧ (¬ (2 : Int32) ≤ (b2 - b2 / (100 : Int32) * (100 : Int32)) → (P_X8_has (v_trial (Int32.toNatClampNeg (22 : Int32))) (b2 / (100 : Int32)) (fun r12 => ((¬ (b2 - b2 / (100 : Int32) * (100 : Int32)) = (1 : Int32) → ((¬ r12 = (0 : Int32) → K (0 : Int32) v_trial v_pulses) ∧ (r12 = (0 : Int32) → K (1 : Int32) v_trial v_pulses))) ∧ ((b2 - b2 / (100 : Int32) * (100 : Int32)) = (1 : Int32) → ((¬ r12 = (1 : Int32) → K (0 : Int32) v_trial v_pulses) ∧ (r12 = (1 : Int32) → K (1 : Int32) v_trial v_pulses))))))))))))) ∧ (b1 = (6 : Int32) → ((¬ (b2 / (100 : Int32)) = (0 : Int32) → K (0 : Int32) v_trial v_pulses) ∧ ((b2 / (100 : Int32)) = (0 : Int32) → (P_X8_maySet ((b2 - b2 / (100 : Int32) * (100 : Int32)) / (10 : Int32)) ((b2 - b2 / (100 : Int32) * (100 : Int32)) - (b2 - b2 / (100 : Int32) * (100 : Int32)) / (10 : Int32) * (10 : Int32)) v_trial (fun r13 => ((¬ r13 = (0 : Int32) → (vp_in ((8 : Int32) + ((b2 - b2 / (100 : Int32) * (100 : Int32)) / (10 : Int32))) 30 ∧ K (1 : Int32) (upd v_trial (Int32.toNatClampNeg ((8 : Int32) + ((b2 - b2 / (100 : Int32) * (100 : Int32)) / (10 : Int32)))) ((b2 - b2 / (100 : Int32) * (100 : Int32)) - (b2 - b2 / (100 : Int32) * (100 : Int32)) / (10 : Int32) * (10 : Int32))) v_pulses)) ∧ (r13 = (0 : Int32) → K (0 : Int32) v_trial v_pulses))))))))
set_option maxHeartbeats 4000000 in
set_option maxRecDepth 100000 in
theorem l_X8_judged_118 {Γ : g_C} (X : g_X Γ (g_Rm 4 93) cX8_judged RX8 6) (h0 : Nat) (h1 : Nat) (h2 : Nat) (o0 o1 o2 o3 o4 o5 o6 o7 o8 o9 o10 o11 o12 o13 o14 o15 o16 o17 o18 o19 o20 o21 o22 o23 o24 o25 : Value) (v_z_dots : Int32) (v_z_cool : Int32) (v_z_low : Int32) (v_z_high : Int32) (v_z_ghost : Int32) (v_z_dead : Int32) (v_pulses : Nat → Int32) (x3 : Int32) (x4 : Int32) {C143 : (Nat → Int32) → Prop} (hC143 : ∀ (v_trial : Nat → Int32), C143 v_trial → g_G Γ (g_Rm 4 93) 6 143 [(3, .int x3), (4, .int x4)] [] (W_X8_judged (g_env Γ) h0 h1 h2 o0 o1 o2 o3 o4 o5 o6 o7 o8 o9 o10 o11 o12 o13 o14 o15 o16 o17 o18 o19 o20 o21 o22 o23 o24 o25 v_z_dots v_z_cool v_z_low v_z_high v_z_ghost v_z_dead v_trial v_pulses)) : ∀ (n : Nat) (x5 : Int32) (v_trial : Nat → Int32), P_X8_judged_L118 v_z_dots v_z_cool x3 x4 C143 n x5 v_trial → g_G Γ (g_Rm 4 93) 6 118 [(0, .ref h0), (3, .int x3), (4, .int x4), (5, .int x5)] [] (W_X8_judged (g_env Γ) h0 h1 h2 o0 o1 o2 o3 o4 o5 o6 o7 o8 o9 o10 o11 o12 o13 o14 o15 o16 o17 o18 o19 o20 o21 o22 o23 o24 o25 v_z_dots v_z_cool v_z_low v_z_high v_z_ghost v_z_dead v_trial v_pulses) := by
  intro n
  induction n with
  | zero => intro x5 v_trial h; exact False.elim h
  | succ n ih =>
    intro x5 v_trial h
    unfold P_X8_judged_L118 at h
    refine g_iload 118 X dX8_judged_118 3 rfl ?_
    refine g_iload 120 X dX8_judged_120 2 rfl ?_
    refine g_icmp_ge 122 X 143 dX8_judged_122 (by decide) (fun c => ?_) (fun c => ?_)
    · replace h := h.1 c
      refine g_sub [(3, .int x3), (4, .int x4)] [1, 2] rfl ?_
      exact hC143 v_trial h
    · replace h := h.2 c
      refine g_iload_n 125 X dX8_judged_125 1 rfl rfl ?_
      refine g_if_ne 126 X 143 dX8_judged_126 (by decide) (fun c => ?_) (fun c => ?_)
      · replace h := h.1 c
        refine g_sub [(3, .int x3), (4, .int x4)] [1, 2] rfl ?_
        exact hC143 v_trial h
      · replace h := h.2 c
        refine g_aload_n 129 X dX8_judged_129 0 rfl rfl ?_
        refine g_aload_n 130 X dX8_judged_130 0 rfl rfl ?_
        refine g_get 131 X fa_X8_16 dX8_judged_131 0 rfl rfl ?_
        refine g_cVV 134 X (st := []) mv_X8_133 dX8_judged_134 h0 8 [.ref h1] (c_X8_coolOn h0 h1 o0 o1 o2 (.int v_z_low) (.int v_z_high) (.int v_z_ghost) o3 (.ref h1) o4 o5 o6 o7 o8 o9 o10 o11 o12 o13 (.int v_z_dead) (.ref h2) o14 o15 o16 o17 o18 o19 o20 o21 o22 o23 o24 o25 v_z_dots v_z_cool v_trial h) [0, 1] (fun u : (Nat → Int32) => (W_X8_judged (g_env Γ) h0 h1 h2 o0 o1 o2 o3 o4 o5 o6 o7 o8 o9 o10 o11 o12 o13 o14 o15 o16 o17 o18 o19 o20 o21 o22 o23 o24 o25 v_z_dots v_z_cool v_z_low v_z_high v_z_ghost v_z_dead u v_pulses)) rfl ⟨(Nat.le_of_ble_eq_true rfl), (Nat.le_of_ble_eq_true rfl)⟩ ⟨rfl, rfl⟩ (Nat.le_of_ble_eq_true rfl) rfl rfl rfl (by decide) (fun _ => rfl) (fun _ => rfl) (fun u h => ?_)
        obtain ⟨v_trial_8, rfl⟩ : ∃ z, z = u := ⟨_, rfl⟩
        refine g_iinc 137 X (x5 + (1 : Int32)) [(5, .int (x5 + (1 : Int32))), (0, .ref h0), (3, .int x3), (4, .int x4)] dX8_judged_137 3 rfl (k_ii_1 _) (Nat.le_of_ble_eq_true rfl) rfl ?_
        refine g_goto 140 X 118 dX8_judged_140 (by decide) ?_
        refine g_sub [(0, .ref h0), (3, .int x3), (4, .int x4), (5, .int (x5 + (1 : Int32)))] [1, 2, 3, 0] rfl ?_
        exact ih (x5 + (1 : Int32)) v_trial_8 h
set_option maxHeartbeats 4000000 in
set_option maxRecDepth 100000 in
theorem c_X8_judged {l : Launch} {E : g_E} (h0 : Nat) (h1 : Nat) (h2 : Nat) (o0 o1 o2 o3 o4 o5 o6 o7 o8 o9 o10 o11 o12 o13 o14 o15 o16 o17 o18 o19 o20 o21 o22 o23 o24 o25 : Value) (v_z_dots : Int32) (v_z_cool : Int32) (v_z_low : Int32) (v_z_high : Int32) (v_z_ghost : Int32) (v_z_dead : Int32) (v_trial : Nat → Int32) (v_pulses : Nat → Int32) (b1 : Int32) (b2 : Int32) {K : Int32 → (Nat → Int32) → (Nat → Int32) → Prop} (h : P_X8_judged b1 b2 v_z_dots v_z_cool v_z_low v_z_high v_z_ghost v_z_dead v_trial v_pulses K) : g_CI l E yX8_judged cX8_judged 6 .boolean (g_Rm 4 93) [.ref h0, .int b1, .int b2] (W_X8_judged E h0 h1 h2 o0 o1 o2 o3 o4 o5 o6 o7 o8 o9 o10 o11 o12 o13 o14 o15 o16 o17 o18 o19 o20 o21 o22 o23 o24 o25 v_z_dots v_z_cool v_z_low v_z_high v_z_ghost v_z_dead v_trial v_pulses) (fun r (u : (Nat → Int32) × (Nat → Int32)) => K r u.1 u.2) (fun (u : (Nat → Int32) × (Nat → Int32)) => (W_X8_judged E h0 h1 h2 o0 o1 o2 o3 o4 o5 o6 o7 o8 o9 o10 o11 o12 o13 o14 o15 o16 o17 o18 o19 o20 o21 o22 o23 o24 o25 v_z_dots v_z_cool v_z_low v_z_high v_z_ghost v_z_dead u.1 u.2)) := by
  refine g_entI RX8 (by decide) rfl (Nat.le_of_ble_eq_true rfl) ?_
  intro Γ X hE hl ret
  subst hE
  subst hl
  unfold P_X8_judged at h
  show g_G Γ (g_Rm 4 93) 6 0 [(0, .ref h0), (1, .int b1), (2, .int b2)] [] (W_X8_judged (g_env Γ) h0 h1 h2 o0 o1 o2 o3 o4 o5 o6 o7 o8 o9 o10 o11 o12 o13 o14 o15 o16 o17 o18 o19 o20 o21 o22 o23 o24 o25 v_z_dots v_z_cool v_z_low v_z_high v_z_ghost v_z_dead v_trial v_pulses)
  refine g_iload_n 0 X dX8_judged_0 2 rfl rfl ?_
  refine g_bipush 1 X (100 : Int32) dX8_judged_1 k_bp_100 ?_
  refine g_idiv 3 X dX8_judged_3 (by decide) ?_
  refine g_istore_n 4 X [(3, .int (b2 / (100 : Int32))), (0, .ref h0), (1, .int b1), (2, .int b2)] dX8_judged_4 rfl (Nat.le_of_ble_eq_true rfl) rfl ?_
  refine g_iload_n 5 X dX8_judged_5 3 rfl rfl ?_
  refine g_bipush 6 X (100 : Int32) dX8_judged_6 k_bp_100 ?_
  refine g_irem 8 X dX8_judged_8 (by decide) ?_
  refine g_istore 9 X [(4, .int (b2 - b2 / (100 : Int32) * (100 : Int32))), (3, .int (b2 / (100 : Int32))), (0, .ref h0), (1, .int b1), (2, .int b2)] dX8_judged_9 (Nat.le_of_ble_eq_true rfl) rfl ?_
  refine g_iload_n 11 X dX8_judged_11 3 rfl rfl ?_
  rcases sw_split b1 1 6 with c | ⟨k, hk, c⟩
  · refine g_tableOut 12 X 266 dX8_judged_12 (c.elim Or.inl (fun c => Or.inr (by omega))) (by decide) ?_
    replace h := h.1 c
    refine g_iconst 266 X (0 : Int32) dX8_judged_266 k_ic_0 ?_
    exact ret 267 _ _ (v_trial, v_pulses) dX8_judged_267 (by decide) h
  · match k, hk, c with
    | 0, _, c =>
      replace c : b1 = (1 : Int32) := c.trans (by decide)
      refine g_tableIn 12 X 40 52 dX8_judged_12 (by rw [c]; decide) (by rw [c]; decide) (by rw [c]; decide) (by decide) ?_
      replace h := h.2.1 c
      refine g_aload_n 52 X dX8_judged_52 2 rfl rfl ?_
      refine g_iload_n 53 X dX8_judged_53 4 rfl rfl ?_
      refine g_cVI 54 X (st := []) mv_X8_196 dX8_judged_54 h0 8 [.int b2] (c_X8_isLine h0 o0 o1 (.int v_z_cool) o2 (.int v_z_low) (.int v_z_high) (.int v_z_ghost) o3 (.ref h1) o4 o5 o6 o7 o8 o9 o10 o11 o12 o13 (.int v_z_dead) (.ref h2) o14 o15 o16 o17 o18 o19 o20 o21 o22 o23 o24 o25 v_z_dots b2 h) [0] (fun u : Unit => (W_X8_judged (g_env Γ) h0 h1 h2 o0 o1 o2 o3 o4 o5 o6 o7 o8 o9 o10 o11 o12 o13 o14 o15 o16 o17 o18 o19 o20 o21 o22 o23 o24 o25 v_z_dots v_z_cool v_z_low v_z_high v_z_ghost v_z_dead v_trial v_pulses)) rfl ⟨(Nat.le_of_ble_eq_true rfl), (Nat.le_of_ble_eq_true rfl)⟩ ⟨rfl, rfl⟩ (Nat.le_of_ble_eq_true rfl) rfl rfl rfl (by decide) (fun _ => rfl) (fun _ => rfl) (fun r1 u h => ?_)
      refine g_if_eq 57 X 72 dX8_judged_57 (by decide) (fun c => ?_) (fun c => ?_)
      · replace h := h.1 c
        refine g_iconst 72 X (0 : Int32) dX8_judged_72 k_ic_0 ?_
        exact ret 73 _ _ (v_trial, v_pulses) dX8_judged_73 (by decide) h
      · replace h := h.2 c
        refine g_aload_n 60 X dX8_judged_60 2 rfl rfl ?_
        refine g_get 61 X fa_X8_16 dX8_judged_61 0 rfl rfl ?_
        refine g_bipush 64 X (21 : Int32) dX8_judged_64 k_bp_21 ?_
        refine g_iald 66 X dX8_judged_66 1 rfl rfl (vp_lit (by decide)) ?_
        refine g_bipush 67 X (8 : Int32) dX8_judged_67 k_bp_8 ?_
        refine g_icmp_ne 69 X 74 dX8_judged_69 (by decide) (fun c => ?_) (fun c => ?_)
        · replace h := h.1 c
          refine g_aload_n 74 X dX8_judged_74 2 rfl rfl ?_
          refine g_get 75 X fa_X8_16 dX8_judged_75 0 rfl rfl ?_
          refine g_iload_n 78 X dX8_judged_78 4 rfl rfl ?_
          refine g_cSV 79 X (st := []) mv_X8_202 dX8_judged_79 [.ref h1, .int b2] (c_X8_putOn h1 v_trial b2 h) [1] (fun u : (Nat → Int32) => (W_X8_judged (g_env Γ) h0 h1 h2 o0 o1 o2 o3 o4 o5 o6 o7 o8 o9 o10 o11 o12 o13 o14 o15 o16 o17 o18 o19 o20 o21 o22 o23 o24 o25 v_z_dots v_z_cool v_z_low v_z_high v_z_ghost v_z_dead u v_pulses)) rfl ⟨(Nat.le_of_ble_eq_true rfl), (Nat.le_of_ble_eq_true rfl)⟩ ⟨rfl, rfl⟩ (Nat.le_of_ble_eq_true rfl) rfl (by decide) (fun _ => rfl) (fun _ => rfl) (fun u h => ?_)
          obtain ⟨v_trial_2, rfl⟩ : ∃ z, z = u := ⟨_, rfl⟩
          refine g_iconst 82 X (1 : Int32) dX8_judged_82 k_ic_1 ?_
          exact ret 83 _ _ (v_trial_2, v_pulses) dX8_judged_83 (by decide) h
        · replace h := h.2 c
          refine g_iconst 72 X (0 : Int32) dX8_judged_72 k_ic_0 ?_
          exact ret 73 _ _ (v_trial, v_pulses) dX8_judged_73 (by decide) h
    | 1, _, c =>
      replace c : b1 = (2 : Int32) := c.trans (by decide)
      refine g_tableIn 12 X 72 84 dX8_judged_12 (by rw [c]; decide) (by rw [c]; decide) (by rw [c]; decide) (by decide) ?_
      replace h := h.2.2.1 c
      refine g_iload_n 84 X dX8_judged_84 4 rfl rfl ?_
      refine g_i2l 85 X dX8_judged_85 ?_
      refine g_lconst 86 X (1 : Int64) dX8_judged_86 k_lc_1 ?_
      refine g_ldc2 87 X dX8_judged_87 kc_X8_91 ?_
      refine g_cSI 90 X (st := []) mv_X8_69 dX8_judged_90 [.long (Int32.toInt64 b2), .long (1 : Int64), .long (9 : Int64)] (c_X8_in (Int32.toInt64 b2) (1 : Int64) (9 : Int64) h) [] (fun u : Unit => (W_X8_judged (g_env Γ) h0 h1 h2 o0 o1 o2 o3 o4 o5 o6 o7 o8 o9 o10 o11 o12 o13 o14 o15 o16 o17 o18 o19 o20 o21 o22 o23 o24 o25 v_z_dots v_z_cool v_z_low v_z_high v_z_ghost v_z_dead v_trial v_pulses)) rfl ⟨(Nat.le_of_ble_eq_true rfl), (Nat.le_of_ble_eq_true rfl)⟩ ⟨rfl, rfl⟩ (Nat.le_of_ble_eq_true rfl) rfl (by decide) (fun _ => rfl) (fun _ => rfl) (fun r3 u h => ?_)
      refine g_if_eq 93 X 113 dX8_judged_93 (by decide) (fun c => ?_) (fun c => ?_)
      · replace h := h.1 c
        refine g_iconst 113 X (0 : Int32) dX8_judged_113 k_ic_0 ?_
        exact ret 114 _ _ (v_trial, v_pulses) dX8_judged_114 (by decide) h
      · replace h := h.2 c
        refine g_aload_n 96 X dX8_judged_96 2 rfl rfl ?_
        refine g_aload_n 97 X dX8_judged_97 2 rfl rfl ?_
        refine g_get 98 X fa_X8_16 dX8_judged_98 0 rfl rfl ?_
        refine g_iload_n 101 X dX8_judged_101 4 rfl rfl ?_
        refine g_cVI 102 X (st := []) mv_X8_205 dX8_judged_102 h0 8 [.ref h1, .int b2] (c_X8_printLines h0 h2 h1 o0 o1 o2 o3 (.ref h1) o4 o5 o6 o7 o8 o9 o10 o11 o12 o13 o14 o15 o16 o17 o18 o19 o20 o21 o22 o23 o24 o25 v_z_dots v_z_cool v_z_low v_z_high v_z_ghost v_z_dead v_pulses v_trial b2 h) [0, 2, 1] (fun u : (Nat → Int32) × (Nat → Int32) => (W_X8_judged (g_env Γ) h0 h1 h2 o0 o1 o2 o3 o4 o5 o6 o7 o8 o9 o10 o11 o12 o13 o14 o15 o16 o17 o18 o19 o20 o21 o22 o23 o24 o25 v_z_dots v_z_cool v_z_low v_z_high v_z_ghost v_z_dead u.2 u.1)) rfl ⟨(Nat.le_of_ble_eq_true rfl), (Nat.le_of_ble_eq_true rfl)⟩ ⟨rfl, rfl⟩ (Nat.le_of_ble_eq_true rfl) rfl rfl rfl (by decide) (fun _ => rfl) (fun _ => rfl) (fun r4 u h => ?_)
        obtain ⟨v_pulses_5, v_trial_6⟩ := u
        dsimp only at h ⊢
        refine g_iload_n 105 X dX8_judged_105 4 rfl rfl ?_
        refine g_icmp_ne 106 X 113 dX8_judged_106 (by decide) (fun c => ?_) (fun c => ?_)
        · replace h := h.1 c
          refine g_iconst 113 X (0 : Int32) dX8_judged_113 k_ic_0 ?_
          exact ret 114 _ _ (v_trial_6, v_pulses_5) dX8_judged_114 (by decide) h
        · replace h := h.2 c
          refine g_iconst 109 X (1 : Int32) dX8_judged_109 k_ic_1 ?_
          refine g_goto 110 X 114 dX8_judged_110 (by decide) ?_
          exact ret 114 _ _ (v_trial_6, v_pulses_5) dX8_judged_114 (by decide) h
    | 2, _, c =>
      replace c : b1 = (3 : Int32) := c.trans (by decide)
      refine g_tableIn 12 X 103 115 dX8_judged_12 (by rw [c]; decide) (by rw [c]; decide) (by rw [c]; decide) (by decide) ?_
      replace h := h.2.2.2.1 c
      refine g_iconst 115 X (0 : Int32) dX8_judged_115 k_ic_0 ?_
      refine g_istore 116 X [(5, .int (0 : Int32)), (4, .int (b2 - b2 / (100 : Int32) * (100 : Int32))), (3, .int (b2 / (100 : Int32))), (0, .ref h0), (1, .int b1), (2, .int b2)] dX8_judged_116 (Nat.le_of_ble_eq_true rfl) rfl ?_
      obtain ⟨n10, h⟩ := h
      refine g_sub [(0, .ref h0), (3, .int (b2 / (100 : Int32))), (4, .int (b2 - b2 / (100 : Int32) * (100 : Int32))), (5, .int (0 : Int32))] [3, 2, 1, 0] rfl ?_
      refine l_X8_judged_118 X h0 h1 h2 o0 o1 o2 o3 o4 o5 o6 o7 o8 o9 o10 o11 o12 o13 o14 o15 o16 o17 o18 o19 o20 o21 o22 o23 o24 o25 v_z_dots v_z_cool v_z_low v_z_high v_z_ghost v_z_dead v_pulses (b2 / (100 : Int32)) (b2 - b2 / (100 : Int32) * (100 : Int32)) (fun v_trial_9 h => ?_) n10 (0 : Int32) v_trial h
      · refine g_iload_n 143 X dX8_judged_143 0 rfl rfl ?_
        refine g_if_ne 144 X 156 dX8_judged_144 (by decide) (fun c => ?_) (fun c => ?_)
        · replace h := h.1 c
          refine g_iconst 156 X (0 : Int32) dX8_judged_156 k_ic_0 ?_
          exact ret 157 _ _ (v_trial_9, v_pulses) dX8_judged_157 (by decide) h
        · replace h := h.2 c
          refine g_iload 147 X dX8_judged_147 1 rfl ?_
          refine g_if_le 149 X 156 dX8_judged_149 (by decide) (fun c => ?_) (fun c => ?_)
          · replace h := h.1 c
            refine g_iconst 156 X (0 : Int32) dX8_judged_156 k_ic_0 ?_
            exact ret 157 _ _ (v_trial_9, v_pulses) dX8_judged_157 (by decide) h
          · replace h := h.2 c
            refine g_iconst 152 X (1 : Int32) dX8_judged_152 k_ic_1 ?_
            refine g_goto 153 X 157 dX8_judged_153 (by decide) ?_
            exact ret 157 _ _ (v_trial_9, v_pulses) dX8_judged_157 (by decide) h
    | 3, _, c =>
      replace c : b1 = (4 : Int32) := c.trans (by decide)
      refine g_tableIn 12 X 146 158 dX8_judged_12 (by rw [c]; decide) (by rw [c]; decide) (by rw [c]; decide) (by decide) ?_
      replace h := h.2.2.2.2.1 c
      refine g_aload_n 158 X dX8_judged_158 2 rfl rfl ?_
      refine g_get 159 X fa_X8_16 dX8_judged_159 0 rfl rfl ?_
      refine g_bipush 162 X (25 : Int32) dX8_judged_162 k_bp_25 ?_
      refine g_iald 164 X dX8_judged_164 1 rfl rfl (vp_lit (by decide)) ?_
      refine g_iload_n 165 X dX8_judged_165 4 rfl rfl ?_
      refine g_icmp_ne 166 X 173 dX8_judged_166 (by decide) (fun c => ?_) (fun c => ?_)
      · replace h := h.1 c
        refine g_iconst 173 X (0 : Int32) dX8_judged_173 k_ic_0 ?_
        exact ret 174 _ _ (v_trial, v_pulses) dX8_judged_174 (by decide) h
      · replace h := h.2 c
        refine g_iconst 169 X (1 : Int32) dX8_judged_169 k_ic_1 ?_
        refine g_goto 170 X 174 dX8_judged_170 (by decide) ?_
        exact ret 174 _ _ (v_trial, v_pulses) dX8_judged_174 (by decide) h
    | 4, _, c =>
      replace c : b1 = (5 : Int32) := c.trans (by decide)
      refine g_tableIn 12 X 163 175 dX8_judged_12 (by rw [c]; decide) (by rw [c]; decide) (by rw [c]; decide) (by decide) ?_
      replace h := h.2.2.2.2.2.1 c
      refine g_aload_n 175 X dX8_judged_175 2 rfl rfl ?_
      refine g_iload_n 176 X dX8_judged_176 1 rfl rfl ?_
      refine g_cVI 177 X (st := []) mv_X8_188 dX8_judged_177 h0 8 [.int (b2 / (100 : Int32))] (c_X8_isDot h0 o0 o1 (.int v_z_cool) o2 (.int v_z_low) (.int v_z_high) (.int v_z_ghost) o3 (.ref h1) o4 o5 o6 o7 o8 o9 o10 o11 o12 o13 (.int v_z_dead) (.ref h2) o14 o15 o16 o17 o18 o19 o20 o21 o22 o23 o24 o25 v_z_dots (b2 / (100 : Int32)) h) [0] (fun u : Unit => (W_X8_judged (g_env Γ) h0 h1 h2 o0 o1 o2 o3 o4 o5 o6 o7 o8 o9 o10 o11 o12 o13 o14 o15 o16 o17 o18 o19 o20 o21 o22 o23 o24 o25 v_z_dots v_z_cool v_z_low v_z_high v_z_ghost v_z_dead v_trial v_pulses)) rfl ⟨(Nat.le_of_ble_eq_true rfl), (Nat.le_of_ble_eq_true rfl)⟩ ⟨rfl, rfl⟩ (Nat.le_of_ble_eq_true rfl) rfl rfl rfl (by decide) (fun _ => rfl) (fun _ => rfl) (fun r11 u h => ?_)
      refine g_if_eq 180 X 218 dX8_judged_180 (by decide) (fun c => ?_) (fun c => ?_)
      · replace h := h.1 c
        refine g_iconst 218 X (0 : Int32) dX8_judged_218 k_ic_0 ?_
        exact ret 219 _ _ (v_trial, v_pulses) dX8_judged_219 (by decide) h
      · replace h := h.2 c
        refine g_iload 183 X dX8_judged_183 0 rfl ?_
        refine g_iconst 185 X (2 : Int32) dX8_judged_185 k_ic_2 ?_
        refine g_icmp_ge 186 X 218 dX8_judged_186 (by decide) (fun c => ?_) (fun c => ?_)
        · replace h := h.1 c
          refine g_iconst 218 X (0 : Int32) dX8_judged_218 k_ic_0 ?_
          exact ret 219 _ _ (v_trial, v_pulses) dX8_judged_219 (by decide) h
        · replace h := h.2 c
          refine g_aload_n 189 X dX8_judged_189 2 rfl rfl ?_
          refine g_get 190 X fa_X8_16 dX8_judged_190 0 rfl rfl ?_
          refine g_bipush 193 X (22 : Int32) dX8_judged_193 k_bp_22 ?_
          refine g_iald 195 X dX8_judged_195 1 rfl rfl (vp_lit (by decide)) ?_
          refine g_iload_n 196 X dX8_judged_196 1 rfl rfl ?_
          refine g_cSI 197 X (st := []) mv_X8_123 dX8_judged_197 [.int (v_trial (Int32.toNatClampNeg (22 : Int32))), .int (b2 / (100 : Int32))] (c_X8_has (v_trial (Int32.toNatClampNeg (22 : Int32))) (b2 / (100 : Int32)) h) [] (fun u : Unit => (W_X8_judged (g_env Γ) h0 h1 h2 o0 o1 o2 o3 o4 o5 o6 o7 o8 o9 o10 o11 o12 o13 o14 o15 o16 o17 o18 o19 o20 o21 o22 o23 o24 o25 v_z_dots v_z_cool v_z_low v_z_high v_z_ghost v_z_dead v_trial v_pulses)) rfl ⟨(Nat.le_of_ble_eq_true rfl), (Nat.le_of_ble_eq_true rfl)⟩ ⟨rfl, rfl⟩ (Nat.le_of_ble_eq_true rfl) rfl (by decide) (fun _ => rfl) (fun _ => rfl) (fun r12 u h => ?_)
          refine g_iload 200 X dX8_judged_200 0 rfl ?_
          refine g_iconst 202 X (1 : Int32) dX8_judged_202 k_ic_1 ?_
          refine g_icmp_ne 203 X 210 dX8_judged_203 (by decide) (fun c => ?_) (fun c => ?_)
          · replace h := h.1 c
            refine g_iconst 210 X (0 : Int32) dX8_judged_210 k_ic_0 ?_
            refine g_icmp_ne 211 X 218 dX8_judged_211 (by decide) (fun c => ?_) (fun c => ?_)
            · replace h := h.1 c
              refine g_iconst 218 X (0 : Int32) dX8_judged_218 k_ic_0 ?_
              exact ret 219 _ _ (v_trial, v_pulses) dX8_judged_219 (by decide) h
            · replace h := h.2 c
              refine g_iconst 214 X (1 : Int32) dX8_judged_214 k_ic_1 ?_
              refine g_goto 215 X 219 dX8_judged_215 (by decide) ?_
              exact ret 219 _ _ (v_trial, v_pulses) dX8_judged_219 (by decide) h
          · replace h := h.2 c
            refine g_iconst 206 X (1 : Int32) dX8_judged_206 k_ic_1 ?_
            refine g_goto 207 X 211 dX8_judged_207 (by decide) ?_
            refine g_icmp_ne 211 X 218 dX8_judged_211 (by decide) (fun c => ?_) (fun c => ?_)
            · replace h := h.1 c
              refine g_iconst 218 X (0 : Int32) dX8_judged_218 k_ic_0 ?_
              exact ret 219 _ _ (v_trial, v_pulses) dX8_judged_219 (by decide) h
            · replace h := h.2 c
              refine g_iconst 214 X (1 : Int32) dX8_judged_214 k_ic_1 ?_
              refine g_goto 215 X 219 dX8_judged_215 (by decide) ?_
              exact ret 219 _ _ (v_trial, v_pulses) dX8_judged_219 (by decide) h
    | 5, _, c =>
      replace c : b1 = (6 : Int32) := c.trans (by decide)
      refine g_tableIn 12 X 208 220 dX8_judged_12 (by rw [c]; decide) (by rw [c]; decide) (by rw [c]; decide) (by decide) ?_
      replace h := h.2.2.2.2.2.2 c
      refine g_iload_n 220 X dX8_judged_220 1 rfl rfl ?_
      refine g_if_ne 221 X 244 dX8_judged_221 (by decide) (fun c => ?_) (fun c => ?_)
      · replace h := h.1 c
        refine g_iconst 244 X (0 : Int32) dX8_judged_244 k_ic_0 ?_
        exact ret 245 _ _ (v_trial, v_pulses) dX8_judged_245 (by decide) h
      · replace h := h.2 c
        refine g_aload_n 224 X dX8_judged_224 2 rfl rfl ?_
        refine g_get 225 X fa_X8_16 dX8_judged_225 0 rfl rfl ?_
        refine g_iload 228 X dX8_judged_228 0 rfl ?_
        refine g_bipush 230 X (10 : Int32) dX8_judged_230 k_bp_10 ?_
        refine g_idiv 232 X dX8_judged_232 (by decide) ?_
        refine g_iload 233 X dX8_judged_233 0 rfl ?_
        refine g_bipush 235 X (10 : Int32) dX8_judged_235 k_bp_10 ?_
        refine g_irem 237 X dX8_judged_237 (by decide) ?_
        refine g_cSI 238 X (st := []) mv_X8_211 dX8_judged_238 [.ref h1, .int ((b2 - b2 / (100 : Int32) * (100 : Int32)) / (10 : Int32)), .int ((b2 - b2 / (100 : Int32) * (100 : Int32)) - (b2 - b2 / (100 : Int32) * (100 : Int32)) / (10 : Int32) * (10 : Int32))] (c_X8_maySet h1 v_trial ((b2 - b2 / (100 : Int32) * (100 : Int32)) / (10 : Int32)) ((b2 - b2 / (100 : Int32) * (100 : Int32)) - (b2 - b2 / (100 : Int32) * (100 : Int32)) / (10 : Int32) * (10 : Int32)) h) [1] (fun u : Unit => (W_X8_judged (g_env Γ) h0 h1 h2 o0 o1 o2 o3 o4 o5 o6 o7 o8 o9 o10 o11 o12 o13 o14 o15 o16 o17 o18 o19 o20 o21 o22 o23 o24 o25 v_z_dots v_z_cool v_z_low v_z_high v_z_ghost v_z_dead v_trial v_pulses)) rfl ⟨(Nat.le_of_ble_eq_true rfl), (Nat.le_of_ble_eq_true rfl)⟩ ⟨rfl, rfl⟩ (Nat.le_of_ble_eq_true rfl) rfl (by decide) (fun _ => rfl) (fun _ => rfl) (fun r13 u h => ?_)
        refine g_if_ne 241 X 246 dX8_judged_241 (by decide) (fun c => ?_) (fun c => ?_)
        · replace h := h.1 c
          refine g_aload_n 246 X dX8_judged_246 2 rfl rfl ?_
          refine g_get 247 X fa_X8_16 dX8_judged_247 0 rfl rfl ?_
          refine g_bipush 250 X (8 : Int32) dX8_judged_250 k_bp_8 ?_
          refine g_iload 252 X dX8_judged_252 0 rfl ?_
          refine g_bipush 254 X (10 : Int32) dX8_judged_254 k_bp_10 ?_
          refine g_idiv 256 X dX8_judged_256 (by decide) ?_
          refine g_iadd 257 X dX8_judged_257 ?_
          refine g_iload 258 X dX8_judged_258 0 rfl ?_
          refine g_bipush 260 X (10 : Int32) dX8_judged_260 k_bp_10 ?_
          refine g_irem 262 X dX8_judged_262 (by decide) ?_
          have f14 := h.1; replace h := h.2
          refine g_iast 263 X (W_X8_judged (g_env Γ) h0 h1 h2 o0 o1 o2 o3 o4 o5 o6 o7 o8 o9 o10 o11 o12 o13 o14 o15 o16 o17 o18 o19 o20 o21 o22 o23 o24 o25 v_z_dots v_z_cool v_z_low v_z_high v_z_ghost v_z_dead (upd v_trial (Int32.toNatClampNeg ((8 : Int32) + ((b2 - b2 / (100 : Int32) * (100 : Int32)) / (10 : Int32)))) ((b2 - b2 / (100 : Int32) * (100 : Int32)) - (b2 - b2 / (100 : Int32) * (100 : Int32)) / (10 : Int32) * (10 : Int32))) v_pulses) dX8_judged_263 1 rfl rfl f14 rfl ?_
          refine g_iconst 264 X (1 : Int32) dX8_judged_264 k_ic_1 ?_
          exact ret 265 _ _ ((upd v_trial (Int32.toNatClampNeg ((8 : Int32) + ((b2 - b2 / (100 : Int32) * (100 : Int32)) / (10 : Int32)))) ((b2 - b2 / (100 : Int32) * (100 : Int32)) - (b2 - b2 / (100 : Int32) * (100 : Int32)) / (10 : Int32) * (10 : Int32))), v_pulses) dX8_judged_265 (by decide) h
        · replace h := h.2 c
          refine g_iconst 244 X (0 : Int32) dX8_judged_244 k_ic_0 ?_
          exact ret 245 _ _ (v_trial, v_pulses) dX8_judged_245 (by decide) h
    | k + 6, hk, _ => exact absurd hk (by omega)

def W_X8_tenThousands (E : g_E) : va_W := []
def P_X8_tenThousands_L4 (x0 : Int32) (C21 : Int64 → Prop) : Nat → Int64 → Int32 → Prop
  | 0, _, _ => False
  | n + 1, x1, x3 => ((x0 ≤ x3 → C21 x1) ∧ (¬ x0 ≤ x3 → P_X8_tenThousands_L4 x0 C21 n (x1 * (10000 : Int64)) (x3 + (1 : Int32))))
def P_X8_tenThousands (b0 : Int32) (K : Int64 → Prop) : Prop := (∃ ne : Nat, P_X8_tenThousands_L4 b0 (fun x1 => K x1) ne (1 : Int64) (0 : Int32))
set_option maxHeartbeats 4000000 in
set_option maxRecDepth 100000 in
theorem l_X8_tenThousands_4 {Γ : g_C} (X : g_X Γ (g_Rm 0 0) cX8_tenThousands RX8 4) (x0 : Int32) {C21 : Int64 → Prop} (hC21 : ∀ (x1 : Int64), C21 x1 → g_G Γ (g_Rm 0 0) 4 21 [(1, .long x1)] [] (W_X8_tenThousands (g_env Γ))) : ∀ (n : Nat) (x1 : Int64) (x3 : Int32), P_X8_tenThousands_L4 x0 C21 n x1 x3 → g_G Γ (g_Rm 0 0) 4 4 [(0, .int x0), (1, .long x1), (3, .int x3)] [] (W_X8_tenThousands (g_env Γ)) := by
  intro n
  induction n with
  | zero => intro x1 x3 h; exact False.elim h
  | succ n ih =>
    intro x1 x3 h
    unfold P_X8_tenThousands_L4 at h
    refine g_iload_n 4 X dX8_tenThousands_4 2 rfl rfl ?_
    refine g_iload_n 5 X dX8_tenThousands_5 0 rfl rfl ?_
    refine g_icmp_ge 6 X 21 dX8_tenThousands_6 (by decide) (fun c => ?_) (fun c => ?_)
    · replace h := h.1 c
      refine g_sub [(1, .long x1)] [1] rfl ?_
      exact hC21 x1 h
    · replace h := h.2 c
      refine g_lload_n 9 X dX8_tenThousands_9 1 rfl rfl ?_
      refine g_ldc2 10 X dX8_tenThousands_10 kc_X8_220 ?_
      refine g_lmul 13 X dX8_tenThousands_13 ?_
      refine g_lstore_n 14 X [(1, .long (x1 * (10000 : Int64))), (0, .int x0), (3, .int x3)] dX8_tenThousands_14 rfl (Nat.le_of_ble_eq_true rfl) rfl ?_
      refine g_iinc 15 X (x3 + (1 : Int32)) [(3, .int (x3 + (1 : Int32))), (1, .long (x1 * (10000 : Int64))), (0, .int x0)] dX8_tenThousands_15 2 rfl (k_ii_1 _) (Nat.le_of_ble_eq_true rfl) rfl ?_
      refine g_goto 18 X 4 dX8_tenThousands_18 (by decide) ?_
      refine g_sub [(0, .int x0), (1, .long (x1 * (10000 : Int64))), (3, .int (x3 + (1 : Int32)))] [2, 1, 0] rfl ?_
      exact ih (x1 * (10000 : Int64)) (x3 + (1 : Int32)) h
set_option maxHeartbeats 4000000 in
set_option maxRecDepth 100000 in
theorem c_X8_tenThousands {l : Launch} {E : g_E} (b0 : Int32) {K : Int64 → Prop} (h : P_X8_tenThousands b0 K) : g_CL l E yX8_tenThousands cX8_tenThousands 4 (g_Rm 0 0) [.int b0] (W_X8_tenThousands E) (fun r (u : Unit) => K r) (fun (u : Unit) => (W_X8_tenThousands E)) := by
  refine g_entL RX8 (by decide) rfl (Nat.le_of_ble_eq_true rfl) ?_
  intro Γ X hE hl ret
  subst hE
  subst hl
  unfold P_X8_tenThousands at h
  show g_G Γ (g_Rm 0 0) 4 0 [(0, .int b0)] [] (W_X8_tenThousands (g_env Γ))
  refine g_lconst 0 X (1 : Int64) dX8_tenThousands_0 k_lc_1 ?_
  refine g_lstore_n 1 X [(1, .long (1 : Int64)), (0, .int b0)] dX8_tenThousands_1 rfl (Nat.le_of_ble_eq_true rfl) rfl ?_
  refine g_iconst 2 X (0 : Int32) dX8_tenThousands_2 k_ic_0 ?_
  refine g_istore_n 3 X [(3, .int (0 : Int32)), (1, .long (1 : Int64)), (0, .int b0)] dX8_tenThousands_3 rfl (Nat.le_of_ble_eq_true rfl) rfl ?_
  obtain ⟨n2, h⟩ := h
  refine g_sub [(0, .int b0), (1, .long (1 : Int64)), (3, .int (0 : Int32))] [2, 1, 0] rfl ?_
  refine l_X8_tenThousands_4 X b0 (fun x1 h => ?_) n2 (1 : Int64) (0 : Int32) h
  · refine g_lload_n 21 X dX8_tenThousands_21 0 rfl rfl ?_
    exact ret 22 _ _ () dX8_tenThousands_22 h

def W_X8_judge (E : g_E) (h0 : Nat) (h1 : Nat) (h2 : Nat) (h3 : Nat) (o0 o1 o2 o3 o4 o5 o6 o7 o8 o9 o10 o11 o12 o13 o14 o15 o16 o17 o18 o19 o20 o21 o22 o23 o24 : Value) (v_z_dots : Int32) (v_z_cool : Int32) (v_z_low : Int32) (v_z_high : Int32) (v_z_ghost : Int32) (v_z_dead : Int32) (v_now : Nat → Int32) (v_trial : Nat → Int32) (v_pulses : Nat → Int32) : va_W := [(h0, .inr (8, [o0, o1, .int v_z_dots, .int v_z_cool, o2, .int v_z_low, .int v_z_high, .int v_z_ghost, .ref h1, .ref h2, o3, o4, o5, o6, o7, o8, o9, o10, o11, o12, .int v_z_dead, .ref h3, o13, o14, o15, o16, o17, o18, o19, o20, o21, o22, o23, o24])), (h1, .inl (E.2.1, 30, .inl v_now)), (h2, .inl (E.2.1, 30, .inl v_trial)), (h3, .inl (E.2.1, 8, .inl v_pulses))]
def P_X8_judge_L43 (v_z_dots : Int32) (v_z_cool : Int32) (v_z_low : Int32) (v_z_high : Int32) (v_z_ghost : Int32) (v_z_dead : Int32) (x1 : Int32) (x2 : Int64) (C86 : Int32 → (Nat → Int32) → (Nat → Int32) → Prop) (C95 : (Nat → Int32) → (Nat → Int32) → Prop) : Nat → Int32 → (Nat → Int32) → (Nat → Int32) → Prop
  | 0, _, _, _ => False
  | n + 1, x4, v_trial, v_pulses => ((x1 ≤ x4 → C95 v_trial v_pulses) ∧ (¬ x1 ≤ x4 → (P_X8_tenThousands ((x1 - (1 : Int32)) - x4) (fun r5 => (¬ r5 = 0 ∧ (P_X8_judged ((Int64.toInt32 ((x2 / r5) - (x2 / r5) / (10000 : Int64) * (10000 : Int64))) / (1000 : Int32)) ((Int64.toInt32 ((x2 / r5) - (x2 / r5) / (10000 : Int64) * (10000 : Int64))) - (Int64.toInt32 ((x2 / r5) - (x2 / r5) / (10000 : Int64) * (10000 : Int64))) / (1000 : Int32) * (1000 : Int32)) v_z_dots v_z_cool v_z_low v_z_high v_z_ghost v_z_dead v_trial v_pulses (fun r7 v_trial_8 v_pulses_9 => ((¬ r7 = (0 : Int32) → P_X8_judge_L43 v_z_dots v_z_cool v_z_low v_z_high v_z_ghost v_z_dead x1 x2 C86 C95 n (x4 + (1 : Int32)) v_trial_8 v_pulses_9) ∧ (r7 = (0 : Int32) → C86 x4 v_trial_8 v_pulses_9)))))))))
def P_X8_judge (b1 : Int32) (b2 : Int64) (v_z_dots : Int32) (v_z_cool : Int32) (v_z_low : Int32) (v_z_high : Int32) (v_z_ghost : Int32) (v_z_dead : Int32) (v_now : Nat → Int32) (v_trial : Nat → Int32) (v_pulses : Nat → Int32) (K : Int32 → (Nat → Int32) → (Nat → Int32) → Prop) : Prop := (P_X8_in (Int32.toInt64 b1) (1 : Int64) (4 : Int64) (fun r1 => ((r1 = (0 : Int32) → K (-2 : Int32) v_trial v_pulses) ∧ (¬ r1 = (0 : Int32) → (P_X8_tenThousands b1 (fun r2 => (P_X8_in b2 (0 : Int64) (r2 - (1 : Int64)) (fun r3 => ((¬ r3 = (0 : Int32) → (P_X8_copy v_now v_trial (fun v_trial_4 => (∃ ne : Nat, P_X8_judge_L43 v_z_dots v_z_cool v_z_low v_z_high v_z_ghost v_z_dead b1 b2 (fun x15 v_trial_16 v_pulses_17 => K x15 v_trial_16 v_pulses_17) (fun v_trial_18 v_pulses_19 => K (-9 : Int32) v_trial_18 v_pulses_19) ne (0 : Int32) v_trial_4 v_pulses)))) ∧ (r3 = (0 : Int32) → K (-2 : Int32) v_trial v_pulses))))))))))
set_option maxHeartbeats 4000000 in
set_option maxRecDepth 100000 in
theorem l_X8_judge_43 {Γ : g_C} (X : g_X Γ (g_Rm 5 118) cX8_judge RX8 6) (h0 : Nat) (h1 : Nat) (h2 : Nat) (h3 : Nat) (o0 o1 o2 o3 o4 o5 o6 o7 o8 o9 o10 o11 o12 o13 o14 o15 o16 o17 o18 o19 o20 o21 o22 o23 o24 : Value) (v_z_dots : Int32) (v_z_cool : Int32) (v_z_low : Int32) (v_z_high : Int32) (v_z_ghost : Int32) (v_z_dead : Int32) (v_now : Nat → Int32) (x1 : Int32) (x2 : Int64) {C86 : Int32 → (Nat → Int32) → (Nat → Int32) → Prop} {C95 : (Nat → Int32) → (Nat → Int32) → Prop} (hC86 : ∀ (x4 : Int32) (v_trial : Nat → Int32) (v_pulses : Nat → Int32), C86 x4 v_trial v_pulses → g_G Γ (g_Rm 5 118) 6 86 [(4, .int x4)] [] (W_X8_judge (g_env Γ) h0 h1 h2 h3 o0 o1 o2 o3 o4 o5 o6 o7 o8 o9 o10 o11 o12 o13 o14 o15 o16 o17 o18 o19 o20 o21 o22 o23 o24 v_z_dots v_z_cool v_z_low v_z_high v_z_ghost v_z_dead v_now v_trial v_pulses)) (hC95 : ∀ (v_trial : Nat → Int32) (v_pulses : Nat → Int32), C95 v_trial v_pulses → g_G Γ (g_Rm 5 118) 6 95 [] [] (W_X8_judge (g_env Γ) h0 h1 h2 h3 o0 o1 o2 o3 o4 o5 o6 o7 o8 o9 o10 o11 o12 o13 o14 o15 o16 o17 o18 o19 o20 o21 o22 o23 o24 v_z_dots v_z_cool v_z_low v_z_high v_z_ghost v_z_dead v_now v_trial v_pulses)) : ∀ (n : Nat) (x4 : Int32) (v_trial : Nat → Int32) (v_pulses : Nat → Int32), P_X8_judge_L43 v_z_dots v_z_cool v_z_low v_z_high v_z_ghost v_z_dead x1 x2 C86 C95 n x4 v_trial v_pulses → g_G Γ (g_Rm 5 118) 6 43 [(0, .ref h0), (1, .int x1), (2, .long x2), (4, .int x4)] [] (W_X8_judge (g_env Γ) h0 h1 h2 h3 o0 o1 o2 o3 o4 o5 o6 o7 o8 o9 o10 o11 o12 o13 o14 o15 o16 o17 o18 o19 o20 o21 o22 o23 o24 v_z_dots v_z_cool v_z_low v_z_high v_z_ghost v_z_dead v_now v_trial v_pulses) := by
  intro n
  induction n with
  | zero => intro x4 v_trial v_pulses h; exact False.elim h
  | succ n ih =>
    intro x4 v_trial v_pulses h
    unfold P_X8_judge_L43 at h
    refine g_iload 43 X dX8_judge_43 3 rfl ?_
    refine g_iload_n 45 X dX8_judge_45 1 rfl rfl ?_
    refine g_icmp_ge 46 X 95 dX8_judge_46 (by decide) (fun c => ?_) (fun c => ?_)
    · replace h := h.1 c
      refine g_sub [] [] rfl ?_
      exact hC95 v_trial v_pulses h
    · replace h := h.2 c
      refine g_lload_n 49 X dX8_judge_49 2 rfl rfl ?_
      refine g_iload_n 50 X dX8_judge_50 1 rfl rfl ?_
      refine g_iconst 51 X (1 : Int32) dX8_judge_51 k_ic_1 ?_
      refine g_isub 52 X dX8_judge_52 ?_
      refine g_iload 53 X dX8_judge_53 3 rfl ?_
      refine g_isub 55 X dX8_judge_55 ?_
      refine g_cSL 56 X (st := [.long x2]) mv_X8_222 dX8_judge_56 [.int ((x1 - (1 : Int32)) - x4)] (c_X8_tenThousands ((x1 - (1 : Int32)) - x4) h) [] (fun u : Unit => (W_X8_judge (g_env Γ) h0 h1 h2 h3 o0 o1 o2 o3 o4 o5 o6 o7 o8 o9 o10 o11 o12 o13 o14 o15 o16 o17 o18 o19 o20 o21 o22 o23 o24 v_z_dots v_z_cool v_z_low v_z_high v_z_ghost v_z_dead v_now v_trial v_pulses)) rfl ⟨(Nat.le_of_ble_eq_true rfl), (Nat.le_of_ble_eq_true rfl)⟩ ⟨rfl, rfl⟩ (Nat.le_of_ble_eq_true rfl) rfl (by decide) (fun _ => rfl) (fun _ => rfl) (fun r10 u h => ?_)
      have f11 := h.1; replace h := h.2
      refine g_ldiv 59 X dX8_judge_59 f11 ?_
      refine g_ldc2 60 X dX8_judge_60 kc_X8_220 ?_
      refine g_lrem 63 X dX8_judge_63 (by decide) ?_
      refine g_l2i 64 X dX8_judge_64 ?_
      refine g_istore 65 X [(5, .int (Int64.toInt32 ((x2 / r10) - (x2 / r10) / (10000 : Int64) * (10000 : Int64)))), (0, .ref h0), (1, .int x1), (2, .long x2), (4, .int x4)] dX8_judge_65 (Nat.le_of_ble_eq_true rfl) rfl ?_
      refine g_aload_n 67 X dX8_judge_67 1 rfl rfl ?_
      refine g_iload 68 X dX8_judge_68 0 rfl ?_
      refine g_sipush 70 X (1000 : Int32) dX8_judge_70 k_sp_1000 ?_
      refine g_idiv 73 X dX8_judge_73 (by decide) ?_
      refine g_iload 74 X dX8_judge_74 0 rfl ?_
      refine g_sipush 76 X (1000 : Int32) dX8_judge_76 k_sp_1000 ?_
      refine g_irem 79 X dX8_judge_79 (by decide) ?_
      refine g_cVI 80 X (st := []) mv_X8_226 dX8_judge_80 h0 8 [.int ((Int64.toInt32 ((x2 / r10) - (x2 / r10) / (10000 : Int64) * (10000 : Int64))) / (1000 : Int32)), .int ((Int64.toInt32 ((x2 / r10) - (x2 / r10) / (10000 : Int64) * (10000 : Int64))) - (Int64.toInt32 ((x2 / r10) - (x2 / r10) / (10000 : Int64) * (10000 : Int64))) / (1000 : Int32) * (1000 : Int32))] (c_X8_judged h0 h2 h3 o0 o1 o2 (.ref h1) o3 o4 o5 o6 o7 o8 o9 o10 o11 o12 o13 o14 o15 o16 o17 o18 o19 o20 o21 o22 o23 o24 v_z_dots v_z_cool v_z_low v_z_high v_z_ghost v_z_dead v_trial v_pulses ((Int64.toInt32 ((x2 / r10) - (x2 / r10) / (10000 : Int64) * (10000 : Int64))) / (1000 : Int32)) ((Int64.toInt32 ((x2 / r10) - (x2 / r10) / (10000 : Int64) * (10000 : Int64))) - (Int64.toInt32 ((x2 / r10) - (x2 / r10) / (10000 : Int64) * (10000 : Int64))) / (1000 : Int32) * (1000 : Int32)) h) [0, 2, 3] (fun u : (Nat → Int32) × (Nat → Int32) => (W_X8_judge (g_env Γ) h0 h1 h2 h3 o0 o1 o2 o3 o4 o5 o6 o7 o8 o9 o10 o11 o12 o13 o14 o15 o16 o17 o18 o19 o20 o21 o22 o23 o24 v_z_dots v_z_cool v_z_low v_z_high v_z_ghost v_z_dead v_now u.1 u.2)) rfl ⟨(Nat.le_of_ble_eq_true rfl), (Nat.le_of_ble_eq_true rfl)⟩ ⟨rfl, rfl⟩ (Nat.le_of_ble_eq_true rfl) rfl rfl rfl (by decide) (fun _ => rfl) (fun _ => rfl) (fun r12 u h => ?_)
      obtain ⟨v_trial_13, v_pulses_14⟩ := u
      dsimp only at h ⊢
      refine g_if_ne 83 X 89 dX8_judge_83 (by decide) (fun c => ?_) (fun c => ?_)
      · replace h := h.1 c
        refine g_iinc 89 X (x4 + (1 : Int32)) [(4, .int (x4 + (1 : Int32))), (5, .int (Int64.toInt32 ((x2 / r10) - (x2 / r10) / (10000 : Int64) * (10000 : Int64)))), (0, .ref h0), (1, .int x1), (2, .long x2)] dX8_judge_89 4 rfl (k_ii_1 _) (Nat.le_of_ble_eq_true rfl) rfl ?_
        refine g_goto 92 X 43 dX8_judge_92 (by decide) ?_
        refine g_sub [(0, .ref h0), (1, .int x1), (2, .long x2), (4, .int (x4 + (1 : Int32)))] [2, 3, 4, 0] rfl ?_
        exact ih (x4 + (1 : Int32)) v_trial_13 v_pulses_14 h
      · replace h := h.2 c
        refine g_sub [(4, .int x4)] [4] rfl ?_
        exact hC86 x4 v_trial_13 v_pulses_14 h
set_option maxHeartbeats 4000000 in
set_option maxRecDepth 100000 in
theorem c_X8_judge {l : Launch} {E : g_E} (h0 : Nat) (h1 : Nat) (h2 : Nat) (h3 : Nat) (o0 o1 o2 o3 o4 o5 o6 o7 o8 o9 o10 o11 o12 o13 o14 o15 o16 o17 o18 o19 o20 o21 o22 o23 o24 : Value) (v_z_dots : Int32) (v_z_cool : Int32) (v_z_low : Int32) (v_z_high : Int32) (v_z_ghost : Int32) (v_z_dead : Int32) (v_now : Nat → Int32) (v_trial : Nat → Int32) (v_pulses : Nat → Int32) (b1 : Int32) (b2 : Int64) {K : Int32 → (Nat → Int32) → (Nat → Int32) → Prop} (h : P_X8_judge b1 b2 v_z_dots v_z_cool v_z_low v_z_high v_z_ghost v_z_dead v_now v_trial v_pulses K) : g_CI l E yX8_judge cX8_judge 6 .int (g_Rm 5 118) [.ref h0, .int b1, .long b2] (W_X8_judge E h0 h1 h2 h3 o0 o1 o2 o3 o4 o5 o6 o7 o8 o9 o10 o11 o12 o13 o14 o15 o16 o17 o18 o19 o20 o21 o22 o23 o24 v_z_dots v_z_cool v_z_low v_z_high v_z_ghost v_z_dead v_now v_trial v_pulses) (fun r (u : (Nat → Int32) × (Nat → Int32)) => K r u.1 u.2) (fun (u : (Nat → Int32) × (Nat → Int32)) => (W_X8_judge E h0 h1 h2 h3 o0 o1 o2 o3 o4 o5 o6 o7 o8 o9 o10 o11 o12 o13 o14 o15 o16 o17 o18 o19 o20 o21 o22 o23 o24 v_z_dots v_z_cool v_z_low v_z_high v_z_ghost v_z_dead v_now u.1 u.2)) := by
  refine g_entI RX8 (by decide) rfl (Nat.le_of_ble_eq_true rfl) ?_
  intro Γ X hE hl ret
  subst hE
  subst hl
  unfold P_X8_judge at h
  show g_G Γ (g_Rm 5 118) 6 0 [(0, .ref h0), (1, .int b1), (2, .long b2)] [] (W_X8_judge (g_env Γ) h0 h1 h2 h3 o0 o1 o2 o3 o4 o5 o6 o7 o8 o9 o10 o11 o12 o13 o14 o15 o16 o17 o18 o19 o20 o21 o22 o23 o24 v_z_dots v_z_cool v_z_low v_z_high v_z_ghost v_z_dead v_now v_trial v_pulses)
  refine g_iload_n 0 X dX8_judge_0 1 rfl rfl ?_
  refine g_i2l 1 X dX8_judge_1 ?_
  refine g_lconst 2 X (1 : Int64) dX8_judge_2 k_lc_1 ?_
  refine g_ldc2 3 X dX8_judge_3 kc_X8_86 ?_
  refine g_cSI 6 X (st := []) mv_X8_69 dX8_judge_6 [.long (Int32.toInt64 b1), .long (1 : Int64), .long (4 : Int64)] (c_X8_in (Int32.toInt64 b1) (1 : Int64) (4 : Int64) h) [] (fun u : Unit => (W_X8_judge (g_env Γ) h0 h1 h2 h3 o0 o1 o2 o3 o4 o5 o6 o7 o8 o9 o10 o11 o12 o13 o14 o15 o16 o17 o18 o19 o20 o21 o22 o23 o24 v_z_dots v_z_cool v_z_low v_z_high v_z_ghost v_z_dead v_now v_trial v_pulses)) rfl ⟨(Nat.le_of_ble_eq_true rfl), (Nat.le_of_ble_eq_true rfl)⟩ ⟨rfl, rfl⟩ (Nat.le_of_ble_eq_true rfl) rfl (by decide) (fun _ => rfl) (fun _ => rfl) (fun r1 u h => ?_)
  refine g_if_eq 9 X 26 dX8_judge_9 (by decide) (fun c => ?_) (fun c => ?_)
  · replace h := h.1 c
    refine g_bipush 26 X (-2 : Int32) dX8_judge_26 k_bp_m2 ?_
    exact ret 28 _ _ (v_trial, v_pulses) dX8_judge_28 (vp_nar_int _) h
  · replace h := h.2 c
    refine g_lload_n 12 X dX8_judge_12 2 rfl rfl ?_
    refine g_lconst 13 X (0 : Int64) dX8_judge_13 k_lc_0 ?_
    refine g_iload_n 14 X dX8_judge_14 1 rfl rfl ?_
    refine g_cSL 15 X (st := [.long (0 : Int64), .long b2]) mv_X8_222 dX8_judge_15 [.int b1] (c_X8_tenThousands b1 h) [] (fun u : Unit => (W_X8_judge (g_env Γ) h0 h1 h2 h3 o0 o1 o2 o3 o4 o5 o6 o7 o8 o9 o10 o11 o12 o13 o14 o15 o16 o17 o18 o19 o20 o21 o22 o23 o24 v_z_dots v_z_cool v_z_low v_z_high v_z_ghost v_z_dead v_now v_trial v_pulses)) rfl ⟨(Nat.le_of_ble_eq_true rfl), (Nat.le_of_ble_eq_true rfl)⟩ ⟨rfl, rfl⟩ (Nat.le_of_ble_eq_true rfl) rfl (by decide) (fun _ => rfl) (fun _ => rfl) (fun r2 u h => ?_)
    refine g_lconst 18 X (1 : Int64) dX8_judge_18 k_lc_1 ?_
    refine g_lsub 19 X dX8_judge_19 ?_
    refine g_cSI 20 X (st := []) mv_X8_69 dX8_judge_20 [.long b2, .long (0 : Int64), .long (r2 - (1 : Int64))] (c_X8_in b2 (0 : Int64) (r2 - (1 : Int64)) h) [] (fun u : Unit => (W_X8_judge (g_env Γ) h0 h1 h2 h3 o0 o1 o2 o3 o4 o5 o6 o7 o8 o9 o10 o11 o12 o13 o14 o15 o16 o17 o18 o19 o20 o21 o22 o23 o24 v_z_dots v_z_cool v_z_low v_z_high v_z_ghost v_z_dead v_now v_trial v_pulses)) rfl ⟨(Nat.le_of_ble_eq_true rfl), (Nat.le_of_ble_eq_true rfl)⟩ ⟨rfl, rfl⟩ (Nat.le_of_ble_eq_true rfl) rfl (by decide) (fun _ => rfl) (fun _ => rfl) (fun r3 u h => ?_)
    refine g_if_ne 23 X 29 dX8_judge_23 (by decide) (fun c => ?_) (fun c => ?_)
    · replace h := h.1 c
      refine g_aload_n 29 X dX8_judge_29 0 rfl rfl ?_
      refine g_get 30 X fa_X8_13 dX8_judge_30 0 rfl rfl ?_
      refine g_aload_n 33 X dX8_judge_33 0 rfl rfl ?_
      refine g_get 34 X fa_X8_16 dX8_judge_34 0 rfl rfl ?_
      refine g_cSV 37 X (st := []) mv_X8_168 dX8_judge_37 [.ref h1, .ref h2] (c_X8_copy h1 h2 v_now v_trial h) [1, 2] (fun u : (Nat → Int32) => (W_X8_judge (g_env Γ) h0 h1 h2 h3 o0 o1 o2 o3 o4 o5 o6 o7 o8 o9 o10 o11 o12 o13 o14 o15 o16 o17 o18 o19 o20 o21 o22 o23 o24 v_z_dots v_z_cool v_z_low v_z_high v_z_ghost v_z_dead v_now u v_pulses)) rfl ⟨(Nat.le_of_ble_eq_true rfl), (Nat.le_of_ble_eq_true rfl)⟩ ⟨rfl, rfl⟩ (Nat.le_of_ble_eq_true rfl) rfl (by decide) (fun _ => rfl) (fun _ => rfl) (fun u h => ?_)
      obtain ⟨v_trial_4, rfl⟩ : ∃ z, z = u := ⟨_, rfl⟩
      refine g_iconst 40 X (0 : Int32) dX8_judge_40 k_ic_0 ?_
      refine g_istore 41 X [(4, .int (0 : Int32)), (0, .ref h0), (1, .int b1), (2, .long b2)] dX8_judge_41 (Nat.le_of_ble_eq_true rfl) rfl ?_
      obtain ⟨n20, h⟩ := h
      refine g_sub [(0, .ref h0), (1, .int b1), (2, .long b2), (4, .int (0 : Int32))] [1, 2, 3, 0] rfl ?_
      refine l_X8_judge_43 X h0 h1 h2 h3 o0 o1 o2 o3 o4 o5 o6 o7 o8 o9 o10 o11 o12 o13 o14 o15 o16 o17 o18 o19 o20 o21 o22 o23 o24 v_z_dots v_z_cool v_z_low v_z_high v_z_ghost v_z_dead v_now b1 b2 (fun x15 v_trial_16 v_pulses_17 h => ?_) (fun v_trial_18 v_pulses_19 h => ?_) n20 (0 : Int32) v_trial_4 v_pulses h
      · refine g_iload 86 X dX8_judge_86 0 rfl ?_
        exact ret 88 _ _ (v_trial_16, v_pulses_17) dX8_judge_88 (vp_nar_int _) h
      · refine g_bipush 95 X (-9 : Int32) dX8_judge_95 k_bp_m9 ?_
        exact ret 97 _ _ (v_trial_18, v_pulses_19) dX8_judge_97 (vp_nar_int _) h
    · replace h := h.2 c
      refine g_bipush 26 X (-2 : Int32) dX8_judge_26 k_bp_m2 ?_
      exact ret 28 _ _ (v_trial, v_pulses) dX8_judge_28 (vp_nar_int _) h

def W_X8_see (E : g_E) (h0 : Nat) (h1 : Nat) (h2 : Nat) (h3 : Nat) (o0 o1 o2 o3 o4 o5 o6 o7 o8 o9 o10 o11 o12 o13 o14 o15 o16 o17 o18 o19 o20 o21 o22 o23 o24 o25 o26 o27 o28 : Value) (v_z_dots : Int32) (v_z_seen : Int32) (v_seenDot : Nat → Int32) (v_seenBehind : Nat → Int32) (v_seenHeat : Nat → Int32) : va_W := [(h0, .inr (8, [o0, o1, .int v_z_dots, o2, o3, o4, o5, o6, o7, o8, o9, o10, o11, o12, o13, .ref h1, .ref h2, .ref h3, .int v_z_seen, o14, o15, o16, o17, o18, o19, o20, o21, o22, o23, o24, o25, o26, o27, o28])), (h1, .inl (E.2.1, 6, .inl v_seenDot)), (h2, .inl (E.2.1, 6, .inl v_seenBehind)), (h3, .inl (E.2.1, 6, .inl v_seenHeat))]
def P_X8_see (b1 : Int32) (b2 : Int32) (b3 : Int32) (v_z_dots : Int32) (v_z_seen : Int32) (v_seenDot : Nat → Int32) (v_seenBehind : Nat → Int32) (v_seenHeat : Nat → Int32) (K : Int32 → Int32 → (Nat → Int32) → (Nat → Int32) → (Nat → Int32) → Prop) : Prop := (P_X8_isDot b1 v_z_dots (fun r1 => ((¬ r1 = (0 : Int32) → (P_X8_in (Int32.toInt64 b2) (0 : Int64) (8 : Int64) (fun r2 => ((r2 = (0 : Int32) → K (-2 : Int32) v_z_seen v_seenDot v_seenBehind v_seenHeat) ∧ (¬ r2 = (0 : Int32) → (P_X8_in (Int32.toInt64 b3) (0 : Int64) (999 : Int64) (fun r3 => ((¬ r3 = (0 : Int32) → ((¬ v_z_seen = (6 : Int32) → (vp_in v_z_seen 6 ∧ K (v_z_seen + (1 : Int32)) (v_z_seen + (1 : Int32)) (upd v_seenDot (Int32.toNatClampNeg v_z_seen) b1) (upd v_seenBehind (Int32.toNatClampNeg v_z_seen) b2) (upd v_seenHeat (Int32.toNatClampNeg v_z_seen) b3))) ∧ (v_z_seen = (6 : Int32) → K (-4 : Int32) v_z_seen v_seenDot v_seenBehind v_seenHeat))) ∧ (r3 = (0 : Int32) → K (-2 : Int32) v_z_seen v_seenDot v_seenBehind v_seenHeat))))))))) ∧ (r1 = (0 : Int32) → K (-1 : Int32) v_z_seen v_seenDot v_seenBehind v_seenHeat))))
set_option maxHeartbeats 4000000 in
set_option maxRecDepth 100000 in
theorem c_X8_see {l : Launch} {E : g_E} (h0 : Nat) (h1 : Nat) (h2 : Nat) (h3 : Nat) (o0 o1 o2 o3 o4 o5 o6 o7 o8 o9 o10 o11 o12 o13 o14 o15 o16 o17 o18 o19 o20 o21 o22 o23 o24 o25 o26 o27 o28 : Value) (v_z_dots : Int32) (v_z_seen : Int32) (v_seenDot : Nat → Int32) (v_seenBehind : Nat → Int32) (v_seenHeat : Nat → Int32) (b1 : Int32) (b2 : Int32) (b3 : Int32) {K : Int32 → Int32 → (Nat → Int32) → (Nat → Int32) → (Nat → Int32) → Prop} (h : P_X8_see b1 b2 b3 v_z_dots v_z_seen v_seenDot v_seenBehind v_seenHeat K) : g_CI l E yX8_see cX8_see 4 .int (g_Rm 2 46) [.ref h0, .int b1, .int b2, .int b3] (W_X8_see E h0 h1 h2 h3 o0 o1 o2 o3 o4 o5 o6 o7 o8 o9 o10 o11 o12 o13 o14 o15 o16 o17 o18 o19 o20 o21 o22 o23 o24 o25 o26 o27 o28 v_z_dots v_z_seen v_seenDot v_seenBehind v_seenHeat) (fun r (u : Int32 × (Nat → Int32) × (Nat → Int32) × (Nat → Int32)) => K r u.1 u.2.1 u.2.2.1 u.2.2.2) (fun (u : Int32 × (Nat → Int32) × (Nat → Int32) × (Nat → Int32)) => (W_X8_see E h0 h1 h2 h3 o0 o1 o2 o3 o4 o5 o6 o7 o8 o9 o10 o11 o12 o13 o14 o15 o16 o17 o18 o19 o20 o21 o22 o23 o24 o25 o26 o27 o28 v_z_dots u.1 u.2.1 u.2.2.1 u.2.2.2)) := by
  refine g_entI RX8 (by decide) rfl (Nat.le_of_ble_eq_true rfl) ?_
  intro Γ X hE hl ret
  subst hE
  subst hl
  unfold P_X8_see at h
  show g_G Γ (g_Rm 2 46) 4 0 [(0, .ref h0), (1, .int b1), (2, .int b2), (3, .int b3)] [] (W_X8_see (g_env Γ) h0 h1 h2 h3 o0 o1 o2 o3 o4 o5 o6 o7 o8 o9 o10 o11 o12 o13 o14 o15 o16 o17 o18 o19 o20 o21 o22 o23 o24 o25 o26 o27 o28 v_z_dots v_z_seen v_seenDot v_seenBehind v_seenHeat)
  refine g_aload_n 0 X dX8_see_0 0 rfl rfl ?_
  refine g_iload_n 1 X dX8_see_1 1 rfl rfl ?_
  refine g_cVI 2 X (st := []) mv_X8_188 dX8_see_2 h0 8 [.int b1] (c_X8_isDot h0 o0 o1 o2 o3 o4 o5 o6 o7 o8 o9 o10 o11 o12 o13 (.ref h1) (.ref h2) (.ref h3) (.int v_z_seen) o14 o15 o16 o17 o18 o19 o20 o21 o22 o23 o24 o25 o26 o27 o28 v_z_dots b1 h) [0] (fun u : Unit => (W_X8_see (g_env Γ) h0 h1 h2 h3 o0 o1 o2 o3 o4 o5 o6 o7 o8 o9 o10 o11 o12 o13 o14 o15 o16 o17 o18 o19 o20 o21 o22 o23 o24 o25 o26 o27 o28 v_z_dots v_z_seen v_seenDot v_seenBehind v_seenHeat)) rfl ⟨(Nat.le_of_ble_eq_true rfl), (Nat.le_of_ble_eq_true rfl)⟩ ⟨rfl, rfl⟩ (Nat.le_of_ble_eq_true rfl) rfl rfl rfl (by decide) (fun _ => rfl) (fun _ => rfl) (fun r1 u h => ?_)
  refine g_if_ne 5 X 10 dX8_see_5 (by decide) (fun c => ?_) (fun c => ?_)
  · replace h := h.1 c
    refine g_iload_n 10 X dX8_see_10 2 rfl rfl ?_
    refine g_i2l 11 X dX8_see_11 ?_
    refine g_lconst 12 X (0 : Int64) dX8_see_12 k_lc_0 ?_
    refine g_ldc2 13 X dX8_see_13 kc_X8_81 ?_
    refine g_cSI 16 X (st := []) mv_X8_69 dX8_see_16 [.long (Int32.toInt64 b2), .long (0 : Int64), .long (8 : Int64)] (c_X8_in (Int32.toInt64 b2) (0 : Int64) (8 : Int64) h) [] (fun u : Unit => (W_X8_see (g_env Γ) h0 h1 h2 h3 o0 o1 o2 o3 o4 o5 o6 o7 o8 o9 o10 o11 o12 o13 o14 o15 o16 o17 o18 o19 o20 o21 o22 o23 o24 o25 o26 o27 o28 v_z_dots v_z_seen v_seenDot v_seenBehind v_seenHeat)) rfl ⟨(Nat.le_of_ble_eq_true rfl), (Nat.le_of_ble_eq_true rfl)⟩ ⟨rfl, rfl⟩ (Nat.le_of_ble_eq_true rfl) rfl (by decide) (fun _ => rfl) (fun _ => rfl) (fun r2 u h => ?_)
    refine g_if_eq 19 X 34 dX8_see_19 (by decide) (fun c => ?_) (fun c => ?_)
    · replace h := h.1 c
      refine g_bipush 34 X (-2 : Int32) dX8_see_34 k_bp_m2 ?_
      exact ret 36 _ _ (v_z_seen, v_seenDot, v_seenBehind, v_seenHeat) dX8_see_36 (vp_nar_int _) h
    · replace h := h.2 c
      refine g_iload_n 22 X dX8_see_22 3 rfl rfl ?_
      refine g_i2l 23 X dX8_see_23 ?_
      refine g_lconst 24 X (0 : Int64) dX8_see_24 k_lc_0 ?_
      refine g_ldc2 25 X dX8_see_25 kc_X8_215 ?_
      refine g_cSI 28 X (st := []) mv_X8_69 dX8_see_28 [.long (Int32.toInt64 b3), .long (0 : Int64), .long (999 : Int64)] (c_X8_in (Int32.toInt64 b3) (0 : Int64) (999 : Int64) h) [] (fun u : Unit => (W_X8_see (g_env Γ) h0 h1 h2 h3 o0 o1 o2 o3 o4 o5 o6 o7 o8 o9 o10 o11 o12 o13 o14 o15 o16 o17 o18 o19 o20 o21 o22 o23 o24 o25 o26 o27 o28 v_z_dots v_z_seen v_seenDot v_seenBehind v_seenHeat)) rfl ⟨(Nat.le_of_ble_eq_true rfl), (Nat.le_of_ble_eq_true rfl)⟩ ⟨rfl, rfl⟩ (Nat.le_of_ble_eq_true rfl) rfl (by decide) (fun _ => rfl) (fun _ => rfl) (fun r3 u h => ?_)
      refine g_if_ne 31 X 37 dX8_see_31 (by decide) (fun c => ?_) (fun c => ?_)
      · replace h := h.1 c
        refine g_aload_n 37 X dX8_see_37 0 rfl rfl ?_
        refine g_get 38 X fa_X8_178 dX8_see_38 0 rfl rfl ?_
        refine g_bipush 41 X (6 : Int32) dX8_see_41 k_bp_6 ?_
        refine g_icmp_ne 43 X 49 dX8_see_43 (by decide) (fun c => ?_) (fun c => ?_)
        · replace h := h.1 c
          refine g_aload_n 49 X dX8_see_49 0 rfl rfl ?_
          refine g_get 50 X fa_X8_29 dX8_see_50 0 rfl rfl ?_
          refine g_aload_n 53 X dX8_see_53 0 rfl rfl ?_
          refine g_get 54 X fa_X8_178 dX8_see_54 0 rfl rfl ?_
          refine g_iload_n 57 X dX8_see_57 1 rfl rfl ?_
          have f4 := h.1; replace h := h.2
          refine g_iast 58 X (W_X8_see (g_env Γ) h0 h1 h2 h3 o0 o1 o2 o3 o4 o5 o6 o7 o8 o9 o10 o11 o12 o13 o14 o15 o16 o17 o18 o19 o20 o21 o22 o23 o24 o25 o26 o27 o28 v_z_dots v_z_seen (upd v_seenDot (Int32.toNatClampNeg v_z_seen) b1) v_seenBehind v_seenHeat) dX8_see_58 1 rfl rfl f4 rfl ?_
          refine g_aload_n 59 X dX8_see_59 0 rfl rfl ?_
          refine g_get 60 X fa_X8_32 dX8_see_60 0 rfl rfl ?_
          refine g_aload_n 63 X dX8_see_63 0 rfl rfl ?_
          refine g_get 64 X fa_X8_178 dX8_see_64 0 rfl rfl ?_
          refine g_iload_n 67 X dX8_see_67 2 rfl rfl ?_
          refine g_iast 68 X (W_X8_see (g_env Γ) h0 h1 h2 h3 o0 o1 o2 o3 o4 o5 o6 o7 o8 o9 o10 o11 o12 o13 o14 o15 o16 o17 o18 o19 o20 o21 o22 o23 o24 o25 o26 o27 o28 v_z_dots v_z_seen (upd v_seenDot (Int32.toNatClampNeg v_z_seen) b1) (upd v_seenBehind (Int32.toNatClampNeg v_z_seen) b2) v_seenHeat) dX8_see_68 2 rfl rfl f4 rfl ?_
          refine g_aload_n 69 X dX8_see_69 0 rfl rfl ?_
          refine g_get 70 X fa_X8_35 dX8_see_70 0 rfl rfl ?_
          refine g_aload_n 73 X dX8_see_73 0 rfl rfl ?_
          refine g_get 74 X fa_X8_178 dX8_see_74 0 rfl rfl ?_
          refine g_iload_n 77 X dX8_see_77 3 rfl rfl ?_
          refine g_iast 78 X (W_X8_see (g_env Γ) h0 h1 h2 h3 o0 o1 o2 o3 o4 o5 o6 o7 o8 o9 o10 o11 o12 o13 o14 o15 o16 o17 o18 o19 o20 o21 o22 o23 o24 o25 o26 o27 o28 v_z_dots v_z_seen (upd v_seenDot (Int32.toNatClampNeg v_z_seen) b1) (upd v_seenBehind (Int32.toNatClampNeg v_z_seen) b2) (upd v_seenHeat (Int32.toNatClampNeg v_z_seen) b3)) dX8_see_78 3 rfl rfl f4 rfl ?_
          refine g_aload_n 79 X dX8_see_79 0 rfl rfl ?_
          refine g_dup 80 X dX8_see_80 rfl ?_
          refine g_get 81 X fa_X8_178 dX8_see_81 0 rfl rfl ?_
          refine g_iconst 84 X (1 : Int32) dX8_see_84 k_ic_1 ?_
          refine g_iadd 85 X dX8_see_85 ?_
          refine g_put 86 X (W_X8_see (g_env Γ) h0 h1 h2 h3 o0 o1 o2 o3 o4 o5 o6 o7 o8 o9 o10 o11 o12 o13 o14 o15 o16 o17 o18 o19 o20 o21 o22 o23 o24 o25 o26 o27 o28 v_z_dots (v_z_seen + (1 : Int32)) (upd v_seenDot (Int32.toNatClampNeg v_z_seen) b1) (upd v_seenBehind (Int32.toNatClampNeg v_z_seen) b2) (upd v_seenHeat (Int32.toNatClampNeg v_z_seen) b3)) fa_X8_178 pa_8_18 dX8_see_86 0 rfl rfl rfl (Nat.le_of_ble_eq_true rfl) rfl ?_
          refine g_aload_n 89 X dX8_see_89 0 rfl rfl ?_
          refine g_get 90 X fa_X8_178 dX8_see_90 0 rfl rfl ?_
          exact ret 93 _ _ ((v_z_seen + (1 : Int32)), (upd v_seenDot (Int32.toNatClampNeg v_z_seen) b1), (upd v_seenBehind (Int32.toNatClampNeg v_z_seen) b2), (upd v_seenHeat (Int32.toNatClampNeg v_z_seen) b3)) dX8_see_93 (vp_nar_int _) h
        · replace h := h.2 c
          refine g_bipush 46 X (-4 : Int32) dX8_see_46 k_bp_m4 ?_
          exact ret 48 _ _ (v_z_seen, v_seenDot, v_seenBehind, v_seenHeat) dX8_see_48 (vp_nar_int _) h
      · replace h := h.2 c
        refine g_bipush 34 X (-2 : Int32) dX8_see_34 k_bp_m2 ?_
        exact ret 36 _ _ (v_z_seen, v_seenDot, v_seenBehind, v_seenHeat) dX8_see_36 (vp_nar_int _) h
  · replace h := h.2 c
    refine g_iconst 8 X (-1 : Int32) dX8_see_8 k_ic_m1 ?_
    exact ret 9 _ _ (v_z_seen, v_seenDot, v_seenBehind, v_seenHeat) dX8_see_9 (vp_nar_int _) h

def W_X8_unsee (E : g_E) (h0 : Nat) (o0 o1 o2 o3 o4 o5 o6 o7 o8 o9 o10 o11 o12 o13 o14 o15 o16 o17 o18 o19 o20 o21 o22 o23 o24 o25 o26 o27 o28 o29 o30 o31 o32 : Value) (v_z_seen : Int32) : va_W := [(h0, .inr (8, [o0, o1, o2, o3, o4, o5, o6, o7, o8, o9, o10, o11, o12, o13, o14, o15, o16, o17, .int v_z_seen, o18, o19, o20, o21, o22, o23, o24, o25, o26, o27, o28, o29, o30, o31, o32]))]
def P_X8_unsee (v_z_seen : Int32) (K : Int32 → Int32 → Prop) : Prop := K v_z_seen (0 : Int32)
set_option maxHeartbeats 4000000 in
set_option maxRecDepth 100000 in
theorem c_X8_unsee {l : Launch} {E : g_E} (h0 : Nat) (o0 o1 o2 o3 o4 o5 o6 o7 o8 o9 o10 o11 o12 o13 o14 o15 o16 o17 o18 o19 o20 o21 o22 o23 o24 o25 o26 o27 o28 o29 o30 o31 o32 : Value) (v_z_seen : Int32) {K : Int32 → Int32 → Prop} (h : P_X8_unsee v_z_seen K) : g_CI l E yX8_unsee cX8_unsee 2 .int (g_Rm 0 0) [.ref h0] (W_X8_unsee E h0 o0 o1 o2 o3 o4 o5 o6 o7 o8 o9 o10 o11 o12 o13 o14 o15 o16 o17 o18 o19 o20 o21 o22 o23 o24 o25 o26 o27 o28 o29 o30 o31 o32 v_z_seen) (fun r (u : Int32) => K r u) (fun (u : Int32) => (W_X8_unsee E h0 o0 o1 o2 o3 o4 o5 o6 o7 o8 o9 o10 o11 o12 o13 o14 o15 o16 o17 o18 o19 o20 o21 o22 o23 o24 o25 o26 o27 o28 o29 o30 o31 o32 u)) := by
  refine g_entI RX8 (by decide) rfl (Nat.le_of_ble_eq_true rfl) ?_
  intro Γ X hE hl ret
  subst hE
  subst hl
  unfold P_X8_unsee at h
  show g_G Γ (g_Rm 0 0) 2 0 [(0, .ref h0)] [] (W_X8_unsee (g_env Γ) h0 o0 o1 o2 o3 o4 o5 o6 o7 o8 o9 o10 o11 o12 o13 o14 o15 o16 o17 o18 o19 o20 o21 o22 o23 o24 o25 o26 o27 o28 o29 o30 o31 o32 v_z_seen)
  refine g_aload_n 0 X dX8_unsee_0 0 rfl rfl ?_
  refine g_get 1 X fa_X8_178 dX8_unsee_1 0 rfl rfl ?_
  refine g_istore_n 4 X [(1, .int v_z_seen), (0, .ref h0)] dX8_unsee_4 rfl (Nat.le_of_ble_eq_true rfl) rfl ?_
  refine g_aload_n 5 X dX8_unsee_5 1 rfl rfl ?_
  refine g_iconst 6 X (0 : Int32) dX8_unsee_6 k_ic_0 ?_
  refine g_put 7 X (W_X8_unsee (g_env Γ) h0 o0 o1 o2 o3 o4 o5 o6 o7 o8 o9 o10 o11 o12 o13 o14 o15 o16 o17 o18 o19 o20 o21 o22 o23 o24 o25 o26 o27 o28 o29 o30 o31 o32 (0 : Int32)) fa_X8_178 pa_8_18 dX8_unsee_7 0 rfl rfl rfl (Nat.le_of_ble_eq_true rfl) rfl ?_
  refine g_iload_n 10 X dX8_unsee_10 0 rfl rfl ?_
  exact ret 11 _ _ ((0 : Int32)) dX8_unsee_11 (vp_nar_int _) h

def W_X8_isSoBy (E : g_E) (h0 : Nat) (h1 : Nat) (h2 : Nat) (h3 : Nat) (h4 : Nat) (h5 : Nat) (h6 : Nat) (o0 o1 o2 o3 o4 o5 o6 o7 o8 o9 o10 o11 o12 o13 o14 o15 o16 o17 o18 o19 o20 o21 : Value) (v_z_dots : Int32) (v_z_cool : Int32) (v_z_low : Int32) (v_z_high : Int32) (v_z_ghost : Int32) (v_z_dead : Int32) (v_now : Nat → Int32) (v_trial : Nat → Int32) (v_seenDot : Nat → Int32) (v_seenBehind : Nat → Int32) (v_seenHeat : Nat → Int32) (v_pulses : Nat → Int32) : va_W := [(h0, .inr (8, [o0, o1, .int v_z_dots, .int v_z_cool, o2, .int v_z_low, .int v_z_high, .int v_z_ghost, .ref h1, .ref h2, o3, o4, o5, o6, o7, .ref h3, .ref h4, .ref h5, o8, o9, .int v_z_dead, .ref h6, o10, o11, o12, o13, o14, o15, o16, o17, o18, o19, o20, o21])), (h1, .inl (E.2.1, 30, .inl v_now)), (h2, .inl (E.2.1, 30, .inl v_trial)), (h3, .inl (E.2.1, 6, .inl v_seenDot)), (h4, .inl (E.2.1, 6, .inl v_seenBehind)), (h5, .inl (E.2.1, 6, .inl v_seenHeat)), (h6, .inl (E.2.1, 8, .inl v_pulses))]
def P_X8_isSoBy (b1 : Int32) (b2 : Int32) (v_z_dots : Int32) (v_z_cool : Int32) (v_z_low : Int32) (v_z_high : Int32) (v_z_ghost : Int32) (v_z_dead : Int32) (v_now : Nat → Int32) (v_trial : Nat → Int32) (v_seenDot : Nat → Int32) (v_seenBehind : Nat → Int32) (v_seenHeat : Nat → Int32) (v_pulses : Nat → Int32) (K : Int32 → Int32 → (Nat → Int32) → (Nat → Int32) → Prop) : Prop := (vp_in b2 6 ∧ (P_X8_isDot (v_seenDot (Int32.toNatClampNeg b2)) v_z_dots (fun r2 => ((¬ r2 = (0 : Int32) → (P_X8_copy v_now v_trial (fun v_trial_3 => (P_X8_printLines (v_seenBehind (Int32.toNatClampNeg b2)) v_z_dots v_z_cool v_z_low v_z_high v_z_ghost ((1 : Int32) <<< (b1 &&& (31 : Int32))) v_pulses v_trial_3 (fun r4 v_pulses_5 v_trial_6 => (vp_in (v_seenDot (Int32.toNatClampNeg b2)) 30 ∧ ((¬ (v_trial_6 (Int32.toNatClampNeg (v_seenDot (Int32.toNatClampNeg b2)))) = (v_seenHeat (Int32.toNatClampNeg b2)) → K (0 : Int32) (0 : Int32) v_trial_6 v_pulses_5) ∧ ((v_trial_6 (Int32.toNatClampNeg (v_seenDot (Int32.toNatClampNeg b2)))) = (v_seenHeat (Int32.toNatClampNeg b2)) → K (1 : Int32) (0 : Int32) v_trial_6 v_pulses_5)))))))) ∧ (r2 = (0 : Int32) → K (1 : Int32) v_z_dead v_trial v_pulses)))))
set_option maxHeartbeats 4000000 in
set_option maxRecDepth 100000 in
theorem c_X8_isSoBy {l : Launch} {E : g_E} (h0 : Nat) (h1 : Nat) (h2 : Nat) (h3 : Nat) (h4 : Nat) (h5 : Nat) (h6 : Nat) (o0 o1 o2 o3 o4 o5 o6 o7 o8 o9 o10 o11 o12 o13 o14 o15 o16 o17 o18 o19 o20 o21 : Value) (v_z_dots : Int32) (v_z_cool : Int32) (v_z_low : Int32) (v_z_high : Int32) (v_z_ghost : Int32) (v_z_dead : Int32) (v_now : Nat → Int32) (v_trial : Nat → Int32) (v_seenDot : Nat → Int32) (v_seenBehind : Nat → Int32) (v_seenHeat : Nat → Int32) (v_pulses : Nat → Int32) (b1 : Int32) (b2 : Int32) {K : Int32 → Int32 → (Nat → Int32) → (Nat → Int32) → Prop} (h : P_X8_isSoBy b1 b2 v_z_dots v_z_cool v_z_low v_z_high v_z_ghost v_z_dead v_now v_trial v_seenDot v_seenBehind v_seenHeat v_pulses K) : g_CI l E yX8_isSoBy cX8_isSoBy 4 .boolean (g_Rm 4 93) [.ref h0, .int b1, .int b2] (W_X8_isSoBy E h0 h1 h2 h3 h4 h5 h6 o0 o1 o2 o3 o4 o5 o6 o7 o8 o9 o10 o11 o12 o13 o14 o15 o16 o17 o18 o19 o20 o21 v_z_dots v_z_cool v_z_low v_z_high v_z_ghost v_z_dead v_now v_trial v_seenDot v_seenBehind v_seenHeat v_pulses) (fun r (u : Int32 × (Nat → Int32) × (Nat → Int32)) => K r u.1 u.2.1 u.2.2) (fun (u : Int32 × (Nat → Int32) × (Nat → Int32)) => (W_X8_isSoBy E h0 h1 h2 h3 h4 h5 h6 o0 o1 o2 o3 o4 o5 o6 o7 o8 o9 o10 o11 o12 o13 o14 o15 o16 o17 o18 o19 o20 o21 v_z_dots v_z_cool v_z_low v_z_high v_z_ghost u.1 v_now u.2.1 v_seenDot v_seenBehind v_seenHeat u.2.2)) := by
  refine g_entI RX8 (by decide) rfl (Nat.le_of_ble_eq_true rfl) ?_
  intro Γ X hE hl ret
  subst hE
  subst hl
  unfold P_X8_isSoBy at h
  show g_G Γ (g_Rm 4 93) 4 0 [(0, .ref h0), (1, .int b1), (2, .int b2)] [] (W_X8_isSoBy (g_env Γ) h0 h1 h2 h3 h4 h5 h6 o0 o1 o2 o3 o4 o5 o6 o7 o8 o9 o10 o11 o12 o13 o14 o15 o16 o17 o18 o19 o20 o21 v_z_dots v_z_cool v_z_low v_z_high v_z_ghost v_z_dead v_now v_trial v_seenDot v_seenBehind v_seenHeat v_pulses)
  refine g_aload_n 0 X dX8_isSoBy_0 0 rfl rfl ?_
  refine g_aload_n 1 X dX8_isSoBy_1 0 rfl rfl ?_
  refine g_get 2 X fa_X8_29 dX8_isSoBy_2 0 rfl rfl ?_
  refine g_iload_n 5 X dX8_isSoBy_5 2 rfl rfl ?_
  have f1 := h.1; replace h := h.2
  refine g_iald 6 X dX8_isSoBy_6 3 rfl rfl f1 ?_
  refine g_cVI 7 X (st := []) mv_X8_188 dX8_isSoBy_7 h0 8 [.int (v_seenDot (Int32.toNatClampNeg b2))] (c_X8_isDot h0 o0 o1 (.int v_z_cool) o2 (.int v_z_low) (.int v_z_high) (.int v_z_ghost) (.ref h1) (.ref h2) o3 o4 o5 o6 o7 (.ref h3) (.ref h4) (.ref h5) o8 o9 (.int v_z_dead) (.ref h6) o10 o11 o12 o13 o14 o15 o16 o17 o18 o19 o20 o21 v_z_dots (v_seenDot (Int32.toNatClampNeg b2)) h) [0] (fun u : Unit => (W_X8_isSoBy (g_env Γ) h0 h1 h2 h3 h4 h5 h6 o0 o1 o2 o3 o4 o5 o6 o7 o8 o9 o10 o11 o12 o13 o14 o15 o16 o17 o18 o19 o20 o21 v_z_dots v_z_cool v_z_low v_z_high v_z_ghost v_z_dead v_now v_trial v_seenDot v_seenBehind v_seenHeat v_pulses)) rfl ⟨(Nat.le_of_ble_eq_true rfl), (Nat.le_of_ble_eq_true rfl)⟩ ⟨rfl, rfl⟩ (Nat.le_of_ble_eq_true rfl) rfl rfl rfl (by decide) (fun _ => rfl) (fun _ => rfl) (fun r2 u h => ?_)
  refine g_if_ne 10 X 15 dX8_isSoBy_10 (by decide) (fun c => ?_) (fun c => ?_)
  · replace h := h.1 c
    refine g_aload_n 15 X dX8_isSoBy_15 0 rfl rfl ?_
    refine g_iconst 16 X (1 : Int32) dX8_isSoBy_16 k_ic_1 ?_
    refine g_iload_n 17 X dX8_isSoBy_17 1 rfl rfl ?_
    refine g_ishl 18 X dX8_isSoBy_18 ?_
    refine g_put 19 X (W_X8_isSoBy (g_env Γ) h0 h1 h2 h3 h4 h5 h6 o0 o1 o2 o3 o4 o5 o6 o7 o8 o9 o10 o11 o12 o13 o14 o15 o16 o17 o18 o19 o20 o21 v_z_dots v_z_cool v_z_low v_z_high v_z_ghost ((1 : Int32) <<< (b1 &&& (31 : Int32))) v_now v_trial v_seenDot v_seenBehind v_seenHeat v_pulses) fa_X8_130 pa_8_20 dX8_isSoBy_19 0 rfl rfl rfl (Nat.le_of_ble_eq_true rfl) rfl ?_
    refine g_aload_n 22 X dX8_isSoBy_22 0 rfl rfl ?_
    refine g_get 23 X fa_X8_13 dX8_isSoBy_23 0 rfl rfl ?_
    refine g_aload_n 26 X dX8_isSoBy_26 0 rfl rfl ?_
    refine g_get 27 X fa_X8_16 dX8_isSoBy_27 0 rfl rfl ?_
    refine g_cSV 30 X (st := []) mv_X8_168 dX8_isSoBy_30 [.ref h1, .ref h2] (c_X8_copy h1 h2 v_now v_trial h) [1, 2] (fun u : (Nat → Int32) => (W_X8_isSoBy (g_env Γ) h0 h1 h2 h3 h4 h5 h6 o0 o1 o2 o3 o4 o5 o6 o7 o8 o9 o10 o11 o12 o13 o14 o15 o16 o17 o18 o19 o20 o21 v_z_dots v_z_cool v_z_low v_z_high v_z_ghost ((1 : Int32) <<< (b1 &&& (31 : Int32))) v_now u v_seenDot v_seenBehind v_seenHeat v_pulses)) rfl ⟨(Nat.le_of_ble_eq_true rfl), (Nat.le_of_ble_eq_true rfl)⟩ ⟨rfl, rfl⟩ (Nat.le_of_ble_eq_true rfl) rfl (by decide) (fun _ => rfl) (fun _ => rfl) (fun u h => ?_)
    obtain ⟨v_trial_3, rfl⟩ : ∃ z, z = u := ⟨_, rfl⟩
    refine g_aload_n 33 X dX8_isSoBy_33 0 rfl rfl ?_
    refine g_aload_n 34 X dX8_isSoBy_34 0 rfl rfl ?_
    refine g_get 35 X fa_X8_16 dX8_isSoBy_35 0 rfl rfl ?_
    refine g_aload_n 38 X dX8_isSoBy_38 0 rfl rfl ?_
    refine g_get 39 X fa_X8_32 dX8_isSoBy_39 0 rfl rfl ?_
    refine g_iload_n 42 X dX8_isSoBy_42 2 rfl rfl ?_
    refine g_iald 43 X dX8_isSoBy_43 4 rfl rfl f1 ?_
    refine g_cVI 44 X (st := []) mv_X8_205 dX8_isSoBy_44 h0 8 [.ref h2, .int (v_seenBehind (Int32.toNatClampNeg b2))] (c_X8_printLines h0 h6 h2 o0 o1 o2 (.ref h1) (.ref h2) o3 o4 o5 o6 o7 (.ref h3) (.ref h4) (.ref h5) o8 o9 o10 o11 o12 o13 o14 o15 o16 o17 o18 o19 o20 o21 v_z_dots v_z_cool v_z_low v_z_high v_z_ghost ((1 : Int32) <<< (b1 &&& (31 : Int32))) v_pulses v_trial_3 (v_seenBehind (Int32.toNatClampNeg b2)) h) [0, 6, 2] (fun u : (Nat → Int32) × (Nat → Int32) => (W_X8_isSoBy (g_env Γ) h0 h1 h2 h3 h4 h5 h6 o0 o1 o2 o3 o4 o5 o6 o7 o8 o9 o10 o11 o12 o13 o14 o15 o16 o17 o18 o19 o20 o21 v_z_dots v_z_cool v_z_low v_z_high v_z_ghost ((1 : Int32) <<< (b1 &&& (31 : Int32))) v_now u.2 v_seenDot v_seenBehind v_seenHeat u.1)) rfl ⟨(Nat.le_of_ble_eq_true rfl), (Nat.le_of_ble_eq_true rfl)⟩ ⟨rfl, rfl⟩ (Nat.le_of_ble_eq_true rfl) rfl rfl rfl (by decide) (fun _ => rfl) (fun _ => rfl) (fun r4 u h => ?_)
    obtain ⟨v_pulses_5, v_trial_6⟩ := u
    dsimp only at h ⊢
    refine g_istore_n 47 X [(3, .int r4), (0, .ref h0), (1, .int b1), (2, .int b2)] dX8_isSoBy_47 rfl (Nat.le_of_ble_eq_true rfl) rfl ?_
    refine g_aload_n 48 X dX8_isSoBy_48 1 rfl rfl ?_
    refine g_iconst 49 X (0 : Int32) dX8_isSoBy_49 k_ic_0 ?_
    refine g_put 50 X (W_X8_isSoBy (g_env Γ) h0 h1 h2 h3 h4 h5 h6 o0 o1 o2 o3 o4 o5 o6 o7 o8 o9 o10 o11 o12 o13 o14 o15 o16 o17 o18 o19 o20 o21 v_z_dots v_z_cool v_z_low v_z_high v_z_ghost (0 : Int32) v_now v_trial_6 v_seenDot v_seenBehind v_seenHeat v_pulses_5) fa_X8_130 pa_8_20 dX8_isSoBy_50 0 rfl rfl rfl (Nat.le_of_ble_eq_true rfl) rfl ?_
    refine g_aload_n 53 X dX8_isSoBy_53 1 rfl rfl ?_
    refine g_get 54 X fa_X8_16 dX8_isSoBy_54 0 rfl rfl ?_
    refine g_aload_n 57 X dX8_isSoBy_57 1 rfl rfl ?_
    refine g_get 58 X fa_X8_29 dX8_isSoBy_58 0 rfl rfl ?_
    refine g_iload_n 61 X dX8_isSoBy_61 3 rfl rfl ?_
    refine g_iald 62 X dX8_isSoBy_62 3 rfl rfl f1 ?_
    have f7 := h.1; replace h := h.2
    refine g_iald 63 X dX8_isSoBy_63 2 rfl rfl f7 ?_
    refine g_aload_n 64 X dX8_isSoBy_64 1 rfl rfl ?_
    refine g_get 65 X fa_X8_35 dX8_isSoBy_65 0 rfl rfl ?_
    refine g_iload_n 68 X dX8_isSoBy_68 3 rfl rfl ?_
    refine g_iald 69 X dX8_isSoBy_69 5 rfl rfl f1 ?_
    refine g_icmp_ne 70 X 77 dX8_isSoBy_70 (by decide) (fun c => ?_) (fun c => ?_)
    · replace h := h.1 c
      refine g_iconst 77 X (0 : Int32) dX8_isSoBy_77 k_ic_0 ?_
      exact ret 78 _ _ ((0 : Int32), v_trial_6, v_pulses_5) dX8_isSoBy_78 (by decide) h
    · replace h := h.2 c
      refine g_iconst 73 X (1 : Int32) dX8_isSoBy_73 k_ic_1 ?_
      refine g_goto 74 X 78 dX8_isSoBy_74 (by decide) ?_
      exact ret 78 _ _ ((0 : Int32), v_trial_6, v_pulses_5) dX8_isSoBy_78 (by decide) h
  · replace h := h.2 c
    refine g_iconst 13 X (1 : Int32) dX8_isSoBy_13 k_ic_1 ?_
    exact ret 14 _ _ (v_z_dead, v_trial, v_pulses) dX8_isSoBy_14 (by decide) h

def W_X8_which (E : g_E) (h0 : Nat) (h1 : Nat) (h2 : Nat) (h3 : Nat) (h4 : Nat) (h5 : Nat) (h6 : Nat) (o0 o1 o2 o3 o4 o5 o6 o7 o8 o9 o10 o11 o12 o13 o14 o15 o16 o17 o18 o19 o20 : Value) (v_z_dots : Int32) (v_z_cool : Int32) (v_z_low : Int32) (v_z_high : Int32) (v_z_ghost : Int32) (v_z_seen : Int32) (v_z_dead : Int32) (v_now : Nat → Int32) (v_trial : Nat → Int32) (v_seenDot : Nat → Int32) (v_seenBehind : Nat → Int32) (v_seenHeat : Nat → Int32) (v_pulses : Nat → Int32) : va_W := [(h0, .inr (8, [o0, o1, .int v_z_dots, .int v_z_cool, o2, .int v_z_low, .int v_z_high, .int v_z_ghost, .ref h1, .ref h2, o3, o4, o5, o6, o7, .ref h3, .ref h4, .ref h5, .int v_z_seen, o8, .int v_z_dead, .ref h6, o9, o10, o11, o12, o13, o14, o15, o16, o17, o18, o19, o20])), (h1, .inl (E.2.1, 30, .inl v_now)), (h2, .inl (E.2.1, 30, .inl v_trial)), (h3, .inl (E.2.1, 6, .inl v_seenDot)), (h4, .inl (E.2.1, 6, .inl v_seenBehind)), (h5, .inl (E.2.1, 6, .inl v_seenHeat)), (h6, .inl (E.2.1, 8, .inl v_pulses))]
def P_X8_which_L17 (v_z_dots : Int32) (v_z_cool : Int32) (v_z_low : Int32) (v_z_high : Int32) (v_z_ghost : Int32) (v_z_seen : Int32) (v_now : Nat → Int32) (v_seenDot : Nat → Int32) (v_seenBehind : Nat → Int32) (v_seenHeat : Nat → Int32) (x1 : Int32) (x2 : Int32) (C52 : Int32 → Int32 → (Nat → Int32) → (Nat → Int32) → Prop) : Nat → Int32 → Int32 → Int32 → (Nat → Int32) → (Nat → Int32) → Prop
  | 0, _, _, _, _, _ => False
  | n + 1, x3, x4, v_z_dead, v_trial, v_pulses => ((v_z_seen ≤ x4 → C52 x3 v_z_dead v_trial v_pulses) ∧ (¬ v_z_seen ≤ x4 → ((x3 = (0 : Int32) → P_X8_which_L17 v_z_dots v_z_cool v_z_low v_z_high v_z_ghost v_z_seen v_now v_seenDot v_seenBehind v_seenHeat x1 x2 C52 n (0 : Int32) (x4 + (1 : Int32)) v_z_dead v_trial v_pulses) ∧ (¬ x3 = (0 : Int32) → (P_X8_isSoBy x2 x4 v_z_dots v_z_cool v_z_low v_z_high v_z_ghost v_z_dead v_now v_trial v_seenDot v_seenBehind v_seenHeat v_pulses (fun r1 v_z_dead_2 v_trial_3 v_pulses_4 => ((r1 = (0 : Int32) → P_X8_which_L17 v_z_dots v_z_cool v_z_low v_z_high v_z_ghost v_z_seen v_now v_seenDot v_seenBehind v_seenHeat x1 x2 C52 n (0 : Int32) (x4 + (1 : Int32)) v_z_dead_2 v_trial_3 v_pulses_4) ∧ (¬ r1 = (0 : Int32) → P_X8_which_L17 v_z_dots v_z_cool v_z_low v_z_high v_z_ghost v_z_seen v_now v_seenDot v_seenBehind v_seenHeat x1 x2 C52 n (1 : Int32) (x4 + (1 : Int32)) v_z_dead_2 v_trial_3 v_pulses_4))))))))
def P_X8_which_L4 (v_z_dots : Int32) (v_z_cool : Int32) (v_z_low : Int32) (v_z_high : Int32) (v_z_ghost : Int32) (v_z_seen : Int32) (v_now : Nat → Int32) (v_seenDot : Nat → Int32) (v_seenBehind : Nat → Int32) (v_seenHeat : Nat → Int32) (C72 : Int32 → Int32 → (Nat → Int32) → (Nat → Int32) → Prop) : Nat → Int32 → Int32 → Int32 → (Nat → Int32) → (Nat → Int32) → Prop
  | 0, _, _, _, _, _ => False
  | n + 1, x1, x2, v_z_dead, v_trial, v_pulses => ((v_z_dots ≤ x2 → C72 x1 v_z_dead v_trial v_pulses) ∧ (¬ v_z_dots ≤ x2 → (∃ ne : Nat, P_X8_which_L17 v_z_dots v_z_cool v_z_low v_z_high v_z_ghost v_z_seen v_now v_seenDot v_seenBehind v_seenHeat x1 x2 (fun x9 v_z_dead_10 v_trial_11 v_pulses_12 => ((x9 = (0 : Int32) → P_X8_which_L4 v_z_dots v_z_cool v_z_low v_z_high v_z_ghost v_z_seen v_now v_seenDot v_seenBehind v_seenHeat C72 n (x1 ||| (0 : Int32)) (x2 + (1 : Int32)) v_z_dead_10 v_trial_11 v_pulses_12) ∧ (¬ x9 = (0 : Int32) → P_X8_which_L4 v_z_dots v_z_cool v_z_low v_z_high v_z_ghost v_z_seen v_now v_seenDot v_seenBehind v_seenHeat C72 n (x1 ||| ((1 : Int32) <<< (x2 &&& (31 : Int32)))) (x2 + (1 : Int32)) v_z_dead_10 v_trial_11 v_pulses_12))) ne (1 : Int32) (0 : Int32) v_z_dead v_trial v_pulses)))
def P_X8_which (v_z_dots : Int32) (v_z_cool : Int32) (v_z_low : Int32) (v_z_high : Int32) (v_z_ghost : Int32) (v_z_seen : Int32) (v_z_dead : Int32) (v_now : Nat → Int32) (v_trial : Nat → Int32) (v_seenDot : Nat → Int32) (v_seenBehind : Nat → Int32) (v_seenHeat : Nat → Int32) (v_pulses : Nat → Int32) (K : Int32 → Int32 → (Nat → Int32) → (Nat → Int32) → Prop) : Prop := (∃ ne : Nat, P_X8_which_L4 v_z_dots v_z_cool v_z_low v_z_high v_z_ghost v_z_seen v_now v_seenDot v_seenBehind v_seenHeat (fun x19 v_z_dead_20 v_trial_21 v_pulses_22 => K x19 v_z_dead_20 v_trial_21 v_pulses_22) ne (0 : Int32) (0 : Int32) v_z_dead v_trial v_pulses)
set_option maxHeartbeats 4000000 in
set_option maxRecDepth 100000 in
theorem l_X8_which_17 {Γ : g_C} (X : g_X Γ (g_Rm 5 116) cX8_which RX8 5) (h0 : Nat) (h1 : Nat) (h2 : Nat) (h3 : Nat) (h4 : Nat) (h5 : Nat) (h6 : Nat) (o0 o1 o2 o3 o4 o5 o6 o7 o8 o9 o10 o11 o12 o13 o14 o15 o16 o17 o18 o19 o20 : Value) (v_z_dots : Int32) (v_z_cool : Int32) (v_z_low : Int32) (v_z_high : Int32) (v_z_ghost : Int32) (v_z_seen : Int32) (v_now : Nat → Int32) (v_seenDot : Nat → Int32) (v_seenBehind : Nat → Int32) (v_seenHeat : Nat → Int32) (x1 : Int32) (x2 : Int32) {C52 : Int32 → Int32 → (Nat → Int32) → (Nat → Int32) → Prop} (hC52 : ∀ (x3 : Int32) (v_z_dead : Int32) (v_trial : Nat → Int32) (v_pulses : Nat → Int32), C52 x3 v_z_dead v_trial v_pulses → g_G Γ (g_Rm 5 116) 5 52 [(0, .ref h0), (1, .int x1), (2, .int x2), (3, .int x3)] [] (W_X8_which (g_env Γ) h0 h1 h2 h3 h4 h5 h6 o0 o1 o2 o3 o4 o5 o6 o7 o8 o9 o10 o11 o12 o13 o14 o15 o16 o17 o18 o19 o20 v_z_dots v_z_cool v_z_low v_z_high v_z_ghost v_z_seen v_z_dead v_now v_trial v_seenDot v_seenBehind v_seenHeat v_pulses)) : ∀ (n : Nat) (x3 : Int32) (x4 : Int32) (v_z_dead : Int32) (v_trial : Nat → Int32) (v_pulses : Nat → Int32), P_X8_which_L17 v_z_dots v_z_cool v_z_low v_z_high v_z_ghost v_z_seen v_now v_seenDot v_seenBehind v_seenHeat x1 x2 C52 n x3 x4 v_z_dead v_trial v_pulses → g_G Γ (g_Rm 5 116) 5 17 [(0, .ref h0), (1, .int x1), (2, .int x2), (3, .int x3), (4, .int x4)] [] (W_X8_which (g_env Γ) h0 h1 h2 h3 h4 h5 h6 o0 o1 o2 o3 o4 o5 o6 o7 o8 o9 o10 o11 o12 o13 o14 o15 o16 o17 o18 o19 o20 v_z_dots v_z_cool v_z_low v_z_high v_z_ghost v_z_seen v_z_dead v_now v_trial v_seenDot v_seenBehind v_seenHeat v_pulses) := by
  intro n
  induction n with
  | zero => intro x3 x4 v_z_dead v_trial v_pulses h; exact False.elim h
  | succ n ih =>
    intro x3 x4 v_z_dead v_trial v_pulses h
    unfold P_X8_which_L17 at h
    refine g_iload 17 X dX8_which_17 4 rfl ?_
    refine g_aload_n 19 X dX8_which_19 0 rfl rfl ?_
    refine g_get 20 X fa_X8_178 dX8_which_20 0 rfl rfl ?_
    refine g_icmp_ge 23 X 52 dX8_which_23 (by decide) (fun c => ?_) (fun c => ?_)
    · replace h := h.1 c
      refine g_sub [(0, .ref h0), (1, .int x1), (2, .int x2), (3, .int x3)] [0, 1, 2, 3] rfl ?_
      exact hC52 x3 v_z_dead v_trial v_pulses h
    · replace h := h.2 c
      refine g_iload_n 26 X dX8_which_26 3 rfl rfl ?_
      refine g_if_eq 27 X 44 dX8_which_27 (by decide) (fun c => ?_) (fun c => ?_)
      · replace h := h.1 c
        refine g_iconst 44 X (0 : Int32) dX8_which_44 k_ic_0 ?_
        refine g_istore_n 45 X [(3, .int (0 : Int32)), (0, .ref h0), (1, .int x1), (2, .int x2), (4, .int x4)] dX8_which_45 rfl (Nat.le_of_ble_eq_true rfl) rfl ?_
        refine g_iinc 46 X (x4 + (1 : Int32)) [(4, .int (x4 + (1 : Int32))), (3, .int (0 : Int32)), (0, .ref h0), (1, .int x1), (2, .int x2)] dX8_which_46 4 rfl (k_ii_1 _) (Nat.le_of_ble_eq_true rfl) rfl ?_
        refine g_goto 49 X 17 dX8_which_49 (by decide) ?_
        refine g_sub [(0, .ref h0), (1, .int x1), (2, .int x2), (3, .int (0 : Int32)), (4, .int (x4 + (1 : Int32)))] [2, 3, 4, 1, 0] rfl ?_
        exact ih (0 : Int32) (x4 + (1 : Int32)) v_z_dead v_trial v_pulses h
      · replace h := h.2 c
        refine g_aload_n 30 X dX8_which_30 0 rfl rfl ?_
        refine g_iload_n 31 X dX8_which_31 2 rfl rfl ?_
        refine g_iload 32 X dX8_which_32 4 rfl ?_
        refine g_cVI 34 X (st := []) mv_X8_229 dX8_which_34 h0 8 [.int x2, .int x4] (c_X8_isSoBy h0 h1 h2 h3 h4 h5 h6 o0 o1 o2 o3 o4 o5 o6 o7 (.int v_z_seen) o8 o9 o10 o11 o12 o13 o14 o15 o16 o17 o18 o19 o20 v_z_dots v_z_cool v_z_low v_z_high v_z_ghost v_z_dead v_now v_trial v_seenDot v_seenBehind v_seenHeat v_pulses x2 x4 h) [0, 1, 2, 3, 4, 5, 6] (fun u : Int32 × (Nat → Int32) × (Nat → Int32) => (W_X8_which (g_env Γ) h0 h1 h2 h3 h4 h5 h6 o0 o1 o2 o3 o4 o5 o6 o7 o8 o9 o10 o11 o12 o13 o14 o15 o16 o17 o18 o19 o20 v_z_dots v_z_cool v_z_low v_z_high v_z_ghost v_z_seen u.1 v_now u.2.1 v_seenDot v_seenBehind v_seenHeat u.2.2)) rfl ⟨(Nat.le_of_ble_eq_true rfl), (Nat.le_of_ble_eq_true rfl)⟩ ⟨rfl, rfl⟩ (Nat.le_of_ble_eq_true rfl) rfl rfl rfl (by decide) (fun _ => rfl) (fun _ => rfl) (fun r5 u h => ?_)
        obtain ⟨v_z_dead_6, v_trial_7, v_pulses_8⟩ := u
        dsimp only at h ⊢
        refine g_if_eq 37 X 44 dX8_which_37 (by decide) (fun c => ?_) (fun c => ?_)
        · replace h := h.1 c
          refine g_iconst 44 X (0 : Int32) dX8_which_44 k_ic_0 ?_
          refine g_istore_n 45 X [(3, .int (0 : Int32)), (0, .ref h0), (1, .int x1), (2, .int x2), (4, .int x4)] dX8_which_45 rfl (Nat.le_of_ble_eq_true rfl) rfl ?_
          refine g_iinc 46 X (x4 + (1 : Int32)) [(4, .int (x4 + (1 : Int32))), (3, .int (0 : Int32)), (0, .ref h0), (1, .int x1), (2, .int x2)] dX8_which_46 4 rfl (k_ii_1 _) (Nat.le_of_ble_eq_true rfl) rfl ?_
          refine g_goto 49 X 17 dX8_which_49 (by decide) ?_
          refine g_sub [(0, .ref h0), (1, .int x1), (2, .int x2), (3, .int (0 : Int32)), (4, .int (x4 + (1 : Int32)))] [2, 3, 4, 1, 0] rfl ?_
          exact ih (0 : Int32) (x4 + (1 : Int32)) v_z_dead_6 v_trial_7 v_pulses_8 h
        · replace h := h.2 c
          refine g_iconst 40 X (1 : Int32) dX8_which_40 k_ic_1 ?_
          refine g_goto 41 X 45 dX8_which_41 (by decide) ?_
          refine g_istore_n 45 X [(3, .int (1 : Int32)), (0, .ref h0), (1, .int x1), (2, .int x2), (4, .int x4)] dX8_which_45 rfl (Nat.le_of_ble_eq_true rfl) rfl ?_
          refine g_iinc 46 X (x4 + (1 : Int32)) [(4, .int (x4 + (1 : Int32))), (3, .int (1 : Int32)), (0, .ref h0), (1, .int x1), (2, .int x2)] dX8_which_46 4 rfl (k_ii_1 _) (Nat.le_of_ble_eq_true rfl) rfl ?_
          refine g_goto 49 X 17 dX8_which_49 (by decide) ?_
          refine g_sub [(0, .ref h0), (1, .int x1), (2, .int x2), (3, .int (1 : Int32)), (4, .int (x4 + (1 : Int32)))] [2, 3, 4, 1, 0] rfl ?_
          exact ih (1 : Int32) (x4 + (1 : Int32)) v_z_dead_6 v_trial_7 v_pulses_8 h
set_option maxHeartbeats 4000000 in
set_option maxRecDepth 100000 in
theorem l_X8_which_4 {Γ : g_C} (X : g_X Γ (g_Rm 5 116) cX8_which RX8 5) (h0 : Nat) (h1 : Nat) (h2 : Nat) (h3 : Nat) (h4 : Nat) (h5 : Nat) (h6 : Nat) (o0 o1 o2 o3 o4 o5 o6 o7 o8 o9 o10 o11 o12 o13 o14 o15 o16 o17 o18 o19 o20 : Value) (v_z_dots : Int32) (v_z_cool : Int32) (v_z_low : Int32) (v_z_high : Int32) (v_z_ghost : Int32) (v_z_seen : Int32) (v_now : Nat → Int32) (v_seenDot : Nat → Int32) (v_seenBehind : Nat → Int32) (v_seenHeat : Nat → Int32) {C72 : Int32 → Int32 → (Nat → Int32) → (Nat → Int32) → Prop} (hC72 : ∀ (x1 : Int32) (v_z_dead : Int32) (v_trial : Nat → Int32) (v_pulses : Nat → Int32), C72 x1 v_z_dead v_trial v_pulses → g_G Γ (g_Rm 5 116) 5 72 [(1, .int x1)] [] (W_X8_which (g_env Γ) h0 h1 h2 h3 h4 h5 h6 o0 o1 o2 o3 o4 o5 o6 o7 o8 o9 o10 o11 o12 o13 o14 o15 o16 o17 o18 o19 o20 v_z_dots v_z_cool v_z_low v_z_high v_z_ghost v_z_seen v_z_dead v_now v_trial v_seenDot v_seenBehind v_seenHeat v_pulses)) : ∀ (n : Nat) (x1 : Int32) (x2 : Int32) (v_z_dead : Int32) (v_trial : Nat → Int32) (v_pulses : Nat → Int32), P_X8_which_L4 v_z_dots v_z_cool v_z_low v_z_high v_z_ghost v_z_seen v_now v_seenDot v_seenBehind v_seenHeat C72 n x1 x2 v_z_dead v_trial v_pulses → g_G Γ (g_Rm 5 116) 5 4 [(0, .ref h0), (1, .int x1), (2, .int x2)] [] (W_X8_which (g_env Γ) h0 h1 h2 h3 h4 h5 h6 o0 o1 o2 o3 o4 o5 o6 o7 o8 o9 o10 o11 o12 o13 o14 o15 o16 o17 o18 o19 o20 v_z_dots v_z_cool v_z_low v_z_high v_z_ghost v_z_seen v_z_dead v_now v_trial v_seenDot v_seenBehind v_seenHeat v_pulses) := by
  intro n
  induction n with
  | zero => intro x1 x2 v_z_dead v_trial v_pulses h; exact False.elim h
  | succ n ih =>
    intro x1 x2 v_z_dead v_trial v_pulses h
    unfold P_X8_which_L4 at h
    refine g_iload_n 4 X dX8_which_4 2 rfl rfl ?_
    refine g_aload_n 5 X dX8_which_5 0 rfl rfl ?_
    refine g_get 6 X fa_X8_59 dX8_which_6 0 rfl rfl ?_
    refine g_icmp_ge 9 X 72 dX8_which_9 (by decide) (fun c => ?_) (fun c => ?_)
    · replace h := h.1 c
      refine g_sub [(1, .int x1)] [1] rfl ?_
      exact hC72 x1 v_z_dead v_trial v_pulses h
    · replace h := h.2 c
      refine g_iconst 12 X (1 : Int32) dX8_which_12 k_ic_1 ?_
      refine g_istore_n 13 X [(3, .int (1 : Int32)), (0, .ref h0), (1, .int x1), (2, .int x2)] dX8_which_13 rfl (Nat.le_of_ble_eq_true rfl) rfl ?_
      refine g_iconst 14 X (0 : Int32) dX8_which_14 k_ic_0 ?_
      refine g_istore 15 X [(4, .int (0 : Int32)), (3, .int (1 : Int32)), (0, .ref h0), (1, .int x1), (2, .int x2)] dX8_which_15 (Nat.le_of_ble_eq_true rfl) rfl ?_
      obtain ⟨n18, h⟩ := h
      refine g_sub [(0, .ref h0), (1, .int x1), (2, .int x2), (3, .int (1 : Int32)), (4, .int (0 : Int32))] [2, 3, 4, 1, 0] rfl ?_
      refine l_X8_which_17 X h0 h1 h2 h3 h4 h5 h6 o0 o1 o2 o3 o4 o5 o6 o7 o8 o9 o10 o11 o12 o13 o14 o15 o16 o17 o18 o19 o20 v_z_dots v_z_cool v_z_low v_z_high v_z_ghost v_z_seen v_now v_seenDot v_seenBehind v_seenHeat x1 x2 (fun x14 v_z_dead_15 v_trial_16 v_pulses_17 h => ?_) n18 (1 : Int32) (0 : Int32) v_z_dead v_trial v_pulses h
      · refine g_iload_n 52 X dX8_which_52 1 rfl rfl ?_
        refine g_iload_n 53 X dX8_which_53 3 rfl rfl ?_
        refine g_if_eq 54 X 63 dX8_which_54 (by decide) (fun c => ?_) (fun c => ?_)
        · replace h := h.1 c
          refine g_iconst 63 X (0 : Int32) dX8_which_63 k_ic_0 ?_
          refine g_ior 64 X dX8_which_64 ?_
          refine g_istore_n 65 X [(1, .int (x1 ||| (0 : Int32))), (0, .ref h0), (2, .int x2), (3, .int x14)] dX8_which_65 rfl (Nat.le_of_ble_eq_true rfl) rfl ?_
          refine g_iinc 66 X (x2 + (1 : Int32)) [(2, .int (x2 + (1 : Int32))), (1, .int (x1 ||| (0 : Int32))), (0, .ref h0), (3, .int x14)] dX8_which_66 2 rfl (k_ii_1 _) (Nat.le_of_ble_eq_true rfl) rfl ?_
          refine g_goto 69 X 4 dX8_which_69 (by decide) ?_
          refine g_sub [(0, .ref h0), (1, .int (x1 ||| (0 : Int32))), (2, .int (x2 + (1 : Int32)))] [2, 1, 0] rfl ?_
          exact ih (x1 ||| (0 : Int32)) (x2 + (1 : Int32)) v_z_dead_15 v_trial_16 v_pulses_17 h
        · replace h := h.2 c
          refine g_iconst 57 X (1 : Int32) dX8_which_57 k_ic_1 ?_
          refine g_iload_n 58 X dX8_which_58 2 rfl rfl ?_
          refine g_ishl 59 X dX8_which_59 ?_
          refine g_goto 60 X 64 dX8_which_60 (by decide) ?_
          refine g_ior 64 X dX8_which_64 ?_
          refine g_istore_n 65 X [(1, .int (x1 ||| ((1 : Int32) <<< (x2 &&& (31 : Int32))))), (0, .ref h0), (2, .int x2), (3, .int x14)] dX8_which_65 rfl (Nat.le_of_ble_eq_true rfl) rfl ?_
          refine g_iinc 66 X (x2 + (1 : Int32)) [(2, .int (x2 + (1 : Int32))), (1, .int (x1 ||| ((1 : Int32) <<< (x2 &&& (31 : Int32))))), (0, .ref h0), (3, .int x14)] dX8_which_66 2 rfl (k_ii_1 _) (Nat.le_of_ble_eq_true rfl) rfl ?_
          refine g_goto 69 X 4 dX8_which_69 (by decide) ?_
          refine g_sub [(0, .ref h0), (1, .int (x1 ||| ((1 : Int32) <<< (x2 &&& (31 : Int32))))), (2, .int (x2 + (1 : Int32)))] [2, 1, 0] rfl ?_
          exact ih (x1 ||| ((1 : Int32) <<< (x2 &&& (31 : Int32)))) (x2 + (1 : Int32)) v_z_dead_15 v_trial_16 v_pulses_17 h
set_option maxHeartbeats 4000000 in
set_option maxRecDepth 100000 in
theorem c_X8_which {l : Launch} {E : g_E} (h0 : Nat) (h1 : Nat) (h2 : Nat) (h3 : Nat) (h4 : Nat) (h5 : Nat) (h6 : Nat) (o0 o1 o2 o3 o4 o5 o6 o7 o8 o9 o10 o11 o12 o13 o14 o15 o16 o17 o18 o19 o20 : Value) (v_z_dots : Int32) (v_z_cool : Int32) (v_z_low : Int32) (v_z_high : Int32) (v_z_ghost : Int32) (v_z_seen : Int32) (v_z_dead : Int32) (v_now : Nat → Int32) (v_trial : Nat → Int32) (v_seenDot : Nat → Int32) (v_seenBehind : Nat → Int32) (v_seenHeat : Nat → Int32) (v_pulses : Nat → Int32) {K : Int32 → Int32 → (Nat → Int32) → (Nat → Int32) → Prop} (h : P_X8_which v_z_dots v_z_cool v_z_low v_z_high v_z_ghost v_z_seen v_z_dead v_now v_trial v_seenDot v_seenBehind v_seenHeat v_pulses K) : g_CI l E yX8_which cX8_which 5 .int (g_Rm 5 116) [.ref h0] (W_X8_which E h0 h1 h2 h3 h4 h5 h6 o0 o1 o2 o3 o4 o5 o6 o7 o8 o9 o10 o11 o12 o13 o14 o15 o16 o17 o18 o19 o20 v_z_dots v_z_cool v_z_low v_z_high v_z_ghost v_z_seen v_z_dead v_now v_trial v_seenDot v_seenBehind v_seenHeat v_pulses) (fun r (u : Int32 × (Nat → Int32) × (Nat → Int32)) => K r u.1 u.2.1 u.2.2) (fun (u : Int32 × (Nat → Int32) × (Nat → Int32)) => (W_X8_which E h0 h1 h2 h3 h4 h5 h6 o0 o1 o2 o3 o4 o5 o6 o7 o8 o9 o10 o11 o12 o13 o14 o15 o16 o17 o18 o19 o20 v_z_dots v_z_cool v_z_low v_z_high v_z_ghost v_z_seen u.1 v_now u.2.1 v_seenDot v_seenBehind v_seenHeat u.2.2)) := by
  refine g_entI RX8 (by decide) rfl (Nat.le_of_ble_eq_true rfl) ?_
  intro Γ X hE hl ret
  subst hE
  subst hl
  unfold P_X8_which at h
  show g_G Γ (g_Rm 5 116) 5 0 [(0, .ref h0)] [] (W_X8_which (g_env Γ) h0 h1 h2 h3 h4 h5 h6 o0 o1 o2 o3 o4 o5 o6 o7 o8 o9 o10 o11 o12 o13 o14 o15 o16 o17 o18 o19 o20 v_z_dots v_z_cool v_z_low v_z_high v_z_ghost v_z_seen v_z_dead v_now v_trial v_seenDot v_seenBehind v_seenHeat v_pulses)
  refine g_iconst 0 X (0 : Int32) dX8_which_0 k_ic_0 ?_
  refine g_istore_n 1 X [(1, .int (0 : Int32)), (0, .ref h0)] dX8_which_1 rfl (Nat.le_of_ble_eq_true rfl) rfl ?_
  refine g_iconst 2 X (0 : Int32) dX8_which_2 k_ic_0 ?_
  refine g_istore_n 3 X [(2, .int (0 : Int32)), (1, .int (0 : Int32)), (0, .ref h0)] dX8_which_3 rfl (Nat.le_of_ble_eq_true rfl) rfl ?_
  obtain ⟨n23, h⟩ := h
  refine g_sub [(0, .ref h0), (1, .int (0 : Int32)), (2, .int (0 : Int32))] [2, 1, 0] rfl ?_
  refine l_X8_which_4 X h0 h1 h2 h3 h4 h5 h6 o0 o1 o2 o3 o4 o5 o6 o7 o8 o9 o10 o11 o12 o13 o14 o15 o16 o17 o18 o19 o20 v_z_dots v_z_cool v_z_low v_z_high v_z_ghost v_z_seen v_now v_seenDot v_seenBehind v_seenHeat (fun x19 v_z_dead_20 v_trial_21 v_pulses_22 h => ?_) n23 (0 : Int32) (0 : Int32) v_z_dead v_trial v_pulses h
  · refine g_iload_n 72 X dX8_which_72 0 rfl rfl ?_
    exact ret 73 _ _ (v_z_dead_20, v_trial_21, v_pulses_22) dX8_which_73 (vp_nar_int _) h

def W_X8_rightWith (E : g_E) (h0 : Nat) (h1 : Nat) (h2 : Nat) (h3 : Nat) (o0 o1 o2 o3 o4 o5 o6 o7 o8 o9 o10 o11 o12 o13 o14 o15 o16 o17 o18 o19 o20 o21 o22 o23 o24 : Value) (v_z_dots : Int32) (v_z_cool : Int32) (v_z_low : Int32) (v_z_high : Int32) (v_z_ghost : Int32) (v_z_dead : Int32) (v_now : Nat → Int32) (v_trial : Nat → Int32) (v_pulses : Nat → Int32) : va_W := [(h0, .inr (8, [o0, o1, .int v_z_dots, .int v_z_cool, o2, .int v_z_low, .int v_z_high, .int v_z_ghost, .ref h1, .ref h2, o3, o4, o5, o6, o7, o8, o9, o10, o11, o12, .int v_z_dead, .ref h3, o13, o14, o15, o16, o17, o18, o19, o20, o21, o22, o23, o24])), (h1, .inl (E.2.1, 30, .inl v_now)), (h2, .inl (E.2.1, 30, .inl v_trial)), (h3, .inl (E.2.1, 8, .inl v_pulses))]
def P_X8_rightWith (b1 : Int32) (v_z_dots : Int32) (v_z_cool : Int32) (v_z_low : Int32) (v_z_high : Int32) (v_z_ghost : Int32) (v_z_dead : Int32) (v_now : Nat → Int32) (v_trial : Nat → Int32) (v_pulses : Nat → Int32) (K : Int32 → Int32 → (Nat → Int32) → (Nat → Int32) → Prop) : Prop := (P_X8_copy v_now v_trial (fun v_trial_1 => (P_X8_rightOfAll v_z_dots v_z_cool v_z_low v_z_high v_z_ghost ((((1 : Int32) <<< (v_z_dots &&& (31 : Int32))) - (1 : Int32)) &&& (b1 ^^^ (-1 : Int32))) v_trial_1 v_pulses (fun r2 v_trial_3 v_pulses_4 => K r2 (0 : Int32) v_trial_3 v_pulses_4))))
set_option maxHeartbeats 4000000 in
set_option maxRecDepth 100000 in
theorem c_X8_rightWith {l : Launch} {E : g_E} (h0 : Nat) (h1 : Nat) (h2 : Nat) (h3 : Nat) (o0 o1 o2 o3 o4 o5 o6 o7 o8 o9 o10 o11 o12 o13 o14 o15 o16 o17 o18 o19 o20 o21 o22 o23 o24 : Value) (v_z_dots : Int32) (v_z_cool : Int32) (v_z_low : Int32) (v_z_high : Int32) (v_z_ghost : Int32) (v_z_dead : Int32) (v_now : Nat → Int32) (v_trial : Nat → Int32) (v_pulses : Nat → Int32) (b1 : Int32) {K : Int32 → Int32 → (Nat → Int32) → (Nat → Int32) → Prop} (h : P_X8_rightWith b1 v_z_dots v_z_cool v_z_low v_z_high v_z_ghost v_z_dead v_now v_trial v_pulses K) : g_CI l E yX8_rightWith cX8_rightWith 3 .int (g_Rm 4 90) [.ref h0, .int b1] (W_X8_rightWith E h0 h1 h2 h3 o0 o1 o2 o3 o4 o5 o6 o7 o8 o9 o10 o11 o12 o13 o14 o15 o16 o17 o18 o19 o20 o21 o22 o23 o24 v_z_dots v_z_cool v_z_low v_z_high v_z_ghost v_z_dead v_now v_trial v_pulses) (fun r (u : Int32 × (Nat → Int32) × (Nat → Int32)) => K r u.1 u.2.1 u.2.2) (fun (u : Int32 × (Nat → Int32) × (Nat → Int32)) => (W_X8_rightWith E h0 h1 h2 h3 o0 o1 o2 o3 o4 o5 o6 o7 o8 o9 o10 o11 o12 o13 o14 o15 o16 o17 o18 o19 o20 o21 o22 o23 o24 v_z_dots v_z_cool v_z_low v_z_high v_z_ghost u.1 v_now u.2.1 u.2.2)) := by
  refine g_entI RX8 (by decide) rfl (Nat.le_of_ble_eq_true rfl) ?_
  intro Γ X hE hl ret
  subst hE
  subst hl
  unfold P_X8_rightWith at h
  show g_G Γ (g_Rm 4 90) 3 0 [(0, .ref h0), (1, .int b1)] [] (W_X8_rightWith (g_env Γ) h0 h1 h2 h3 o0 o1 o2 o3 o4 o5 o6 o7 o8 o9 o10 o11 o12 o13 o14 o15 o16 o17 o18 o19 o20 o21 o22 o23 o24 v_z_dots v_z_cool v_z_low v_z_high v_z_ghost v_z_dead v_now v_trial v_pulses)
  refine g_aload_n 0 X dX8_rightWith_0 0 rfl rfl ?_
  refine g_iconst 1 X (1 : Int32) dX8_rightWith_1 k_ic_1 ?_
  refine g_aload_n 2 X dX8_rightWith_2 0 rfl rfl ?_
  refine g_get 3 X fa_X8_59 dX8_rightWith_3 0 rfl rfl ?_
  refine g_ishl 6 X dX8_rightWith_6 ?_
  refine g_iconst 7 X (1 : Int32) dX8_rightWith_7 k_ic_1 ?_
  refine g_isub 8 X dX8_rightWith_8 ?_
  refine g_iload_n 9 X dX8_rightWith_9 1 rfl rfl ?_
  refine g_iconst 10 X (-1 : Int32) dX8_rightWith_10 k_ic_m1 ?_
  refine g_ixor 11 X dX8_rightWith_11 ?_
  refine g_iand 12 X dX8_rightWith_12 ?_
  refine g_put 13 X (W_X8_rightWith (g_env Γ) h0 h1 h2 h3 o0 o1 o2 o3 o4 o5 o6 o7 o8 o9 o10 o11 o12 o13 o14 o15 o16 o17 o18 o19 o20 o21 o22 o23 o24 v_z_dots v_z_cool v_z_low v_z_high v_z_ghost ((((1 : Int32) <<< (v_z_dots &&& (31 : Int32))) - (1 : Int32)) &&& (b1 ^^^ (-1 : Int32))) v_now v_trial v_pulses) fa_X8_130 pa_8_20 dX8_rightWith_13 0 rfl rfl rfl (Nat.le_of_ble_eq_true rfl) rfl ?_
  refine g_aload_n 16 X dX8_rightWith_16 0 rfl rfl ?_
  refine g_get 17 X fa_X8_13 dX8_rightWith_17 0 rfl rfl ?_
  refine g_aload_n 20 X dX8_rightWith_20 0 rfl rfl ?_
  refine g_get 21 X fa_X8_16 dX8_rightWith_21 0 rfl rfl ?_
  refine g_cSV 24 X (st := []) mv_X8_168 dX8_rightWith_24 [.ref h1, .ref h2] (c_X8_copy h1 h2 v_now v_trial h) [1, 2] (fun u : (Nat → Int32) => (W_X8_rightWith (g_env Γ) h0 h1 h2 h3 o0 o1 o2 o3 o4 o5 o6 o7 o8 o9 o10 o11 o12 o13 o14 o15 o16 o17 o18 o19 o20 o21 o22 o23 o24 v_z_dots v_z_cool v_z_low v_z_high v_z_ghost ((((1 : Int32) <<< (v_z_dots &&& (31 : Int32))) - (1 : Int32)) &&& (b1 ^^^ (-1 : Int32))) v_now u v_pulses)) rfl ⟨(Nat.le_of_ble_eq_true rfl), (Nat.le_of_ble_eq_true rfl)⟩ ⟨rfl, rfl⟩ (Nat.le_of_ble_eq_true rfl) rfl (by decide) (fun _ => rfl) (fun _ => rfl) (fun u h => ?_)
  obtain ⟨v_trial_1, rfl⟩ : ∃ z, z = u := ⟨_, rfl⟩
  refine g_aload_n 27 X dX8_rightWith_27 0 rfl rfl ?_
  refine g_cVI 28 X (st := []) mv_X8_217 dX8_rightWith_28 h0 8 [] (c_X8_rightOfAll h0 h2 h3 o0 o1 o2 (.ref h1) o3 o4 o5 o6 o7 o8 o9 o10 o11 o12 o13 o14 o15 o16 o17 o18 o19 o20 o21 o22 o23 o24 v_z_dots v_z_cool v_z_low v_z_high v_z_ghost ((((1 : Int32) <<< (v_z_dots &&& (31 : Int32))) - (1 : Int32)) &&& (b1 ^^^ (-1 : Int32))) v_trial_1 v_pulses h) [0, 2, 3] (fun u : (Nat → Int32) × (Nat → Int32) => (W_X8_rightWith (g_env Γ) h0 h1 h2 h3 o0 o1 o2 o3 o4 o5 o6 o7 o8 o9 o10 o11 o12 o13 o14 o15 o16 o17 o18 o19 o20 o21 o22 o23 o24 v_z_dots v_z_cool v_z_low v_z_high v_z_ghost ((((1 : Int32) <<< (v_z_dots &&& (31 : Int32))) - (1 : Int32)) &&& (b1 ^^^ (-1 : Int32))) v_now u.1 u.2)) rfl ⟨(Nat.le_of_ble_eq_true rfl), (Nat.le_of_ble_eq_true rfl)⟩ ⟨rfl, rfl⟩ (Nat.le_of_ble_eq_true rfl) rfl rfl rfl (by decide) (fun _ => rfl) (fun _ => rfl) (fun r2 u h => ?_)
  obtain ⟨v_trial_3, v_pulses_4⟩ := u
  dsimp only at h ⊢
  refine g_istore_n 31 X [(2, .int r2), (0, .ref h0), (1, .int b1)] dX8_rightWith_31 rfl (Nat.le_of_ble_eq_true rfl) rfl ?_
  refine g_aload_n 32 X dX8_rightWith_32 1 rfl rfl ?_
  refine g_iconst 33 X (0 : Int32) dX8_rightWith_33 k_ic_0 ?_
  refine g_put 34 X (W_X8_rightWith (g_env Γ) h0 h1 h2 h3 o0 o1 o2 o3 o4 o5 o6 o7 o8 o9 o10 o11 o12 o13 o14 o15 o16 o17 o18 o19 o20 o21 o22 o23 o24 v_z_dots v_z_cool v_z_low v_z_high v_z_ghost (0 : Int32) v_now v_trial_3 v_pulses_4) fa_X8_130 pa_8_20 dX8_rightWith_34 0 rfl rfl rfl (Nat.le_of_ble_eq_true rfl) rfl ?_
  refine g_iload_n 37 X dX8_rightWith_37 0 rfl rfl ?_
  exact ret 38 _ _ ((0 : Int32), v_trial_3, v_pulses_4) dX8_rightWith_38 (vp_nar_int _) h

def W_X8_share (E : g_E) (h0 : Nat) (h1 : Nat) (h2 : Nat) (h3 : Nat) (h4 : Nat) (o0 o1 o2 o3 o4 o5 o6 o7 o8 o9 o10 o11 o12 o13 o14 o15 o16 o17 o18 o19 o20 o21 o22 o23 : Value) (v_z_dots : Int32) (v_z_cool : Int32) (v_z_low : Int32) (v_z_high : Int32) (v_z_ghost : Int32) (v_z_dead : Int32) (v_now : Nat → Int32) (v_trial : Nat → Int32) (v_pulses : Nat → Int32) (v_worth : Nat → Int32) : va_W := [(h0, .inr (8, [o0, o1, .int v_z_dots, .int v_z_cool, o2, .int v_z_low, .int v_z_high, .int v_z_ghost, .ref h1, .ref h2, o3, o4, o5, o6, o7, o8, o9, o10, o11, o12, .int v_z_dead, .ref h3, o13, o14, .ref h4, o15, o16, o17, o18, o19, o20, o21, o22, o23])), (h1, .inl (E.2.1, 30, .inl v_now)), (h2, .inl (E.2.1, 30, .inl v_trial)), (h3, .inl (E.2.1, 8, .inl v_pulses)), (h4, .inl (E.2.1, 256, .inl v_worth))]
def P_X8_share_L12 (v_z_dots : Int32) (v_z_cool : Int32) (v_z_low : Int32) (v_z_high : Int32) (v_z_ghost : Int32) (v_now : Nat → Int32) (x1 : Int32) (x2 : Int32) (C39 : Int32 → (Nat → Int32) → (Nat → Int32) → (Nat → Int32) → Prop) : Nat → Int32 → Int32 → (Nat → Int32) → (Nat → Int32) → (Nat → Int32) → Prop
  | 0, _, _, _, _, _ => False
  | n + 1, x3, v_z_dead, v_trial, v_pulses, v_worth => ((((1 : Int32) <<< (v_z_dots &&& (31 : Int32))) ≤ x3 → C39 v_z_dead v_trial v_pulses v_worth) ∧ (¬ ((1 : Int32) <<< (v_z_dots &&& (31 : Int32))) ≤ x3 → (P_X8_rightWith x3 v_z_dots v_z_cool v_z_low v_z_high v_z_ghost v_z_dead v_now v_trial v_pulses (fun r2 v_z_dead_3 v_trial_4 v_pulses_5 => (vp_in x3 256 ∧ P_X8_share_L12 v_z_dots v_z_cool v_z_low v_z_high v_z_ghost v_now x1 x2 C39 n (x3 + (1 : Int32)) v_z_dead_3 v_trial_4 v_pulses_5 (upd v_worth (Int32.toNatClampNeg x3) r2))))))
def P_X8_share_L44 (v_z_dots : Int32) (v_worth : Nat → Int32) (x1 : Int32) (x2 : Int32) (C118 : Int32 → Prop) : Nat → Int32 → Int32 → Prop
  | 0, _, _ => False
  | n + 1, x3, x4 => ((((1 : Int32) <<< (v_z_dots &&& (31 : Int32))) ≤ x4 → C118 x3) ∧ (¬ ((1 : Int32) <<< (v_z_dots &&& (31 : Int32))) ≤ x4 → (P_X8_has x4 x1 (fun r16 => ((¬ r16 = (0 : Int32) → P_X8_share_L44 v_z_dots v_worth x1 x2 C118 n x3 (x4 + (1 : Int32))) ∧ (r16 = (0 : Int32) → (P_X8_ones x4 (fun r17 => (P_X8_factorial r17 (fun r18 => (P_X8_factorial ((v_z_dots - (1 : Int32)) - r17) (fun r19 => (vp_in (x4 ||| ((1 : Int32) <<< (x1 &&& (31 : Int32)))) 256 ∧ (vp_in x4 256 ∧ P_X8_share_L44 v_z_dots v_worth x1 x2 C118 n (x3 + ((r18 * r19) * ((v_worth (Int32.toNatClampNeg (x4 ||| ((1 : Int32) <<< (x1 &&& (31 : Int32)))))) - (v_worth (Int32.toNatClampNeg x4))))) (x4 + (1 : Int32))))))))))))))))
def P_X8_share (b1 : Int32) (b2 : Int32) (v_z_dots : Int32) (v_z_cool : Int32) (v_z_low : Int32) (v_z_high : Int32) (v_z_ghost : Int32) (v_z_dead : Int32) (v_now : Nat → Int32) (v_trial : Nat → Int32) (v_pulses : Nat → Int32) (v_worth : Nat → Int32) (K : Int32 → Int32 → (Nat → Int32) → (Nat → Int32) → (Nat → Int32) → Prop) : Prop := (P_X8_isDot b1 v_z_dots (fun r1 => ((¬ r1 = (0 : Int32) → (∃ ne : Nat, P_X8_share_L12 v_z_dots v_z_cool v_z_low v_z_high v_z_ghost v_now b1 b2 (fun v_z_dead_12 v_trial_13 v_pulses_14 v_worth_15 => (∃ ne : Nat, P_X8_share_L44 v_z_dots v_worth_15 b1 b2 (fun x28 => (P_X8_factorial v_z_dots (fun r29 => (P_X8_fraction x28 r29 b2 (fun r30 => K r30 v_z_dead_12 v_trial_13 v_pulses_14 v_worth_15))))) ne (0 : Int32) (0 : Int32))) ne (0 : Int32) v_z_dead v_trial v_pulses v_worth)) ∧ (r1 = (0 : Int32) → K (-1 : Int32) v_z_dead v_trial v_pulses v_worth))))
set_option maxHeartbeats 4000000 in
set_option maxRecDepth 100000 in
theorem l_X8_share_12 {Γ : g_C} (X : g_X Γ (g_Rm 5 112) cX8_share RX8 6) (h0 : Nat) (h1 : Nat) (h2 : Nat) (h3 : Nat) (h4 : Nat) (o0 o1 o2 o3 o4 o5 o6 o7 o8 o9 o10 o11 o12 o13 o14 o15 o16 o17 o18 o19 o20 o21 o22 o23 : Value) (v_z_dots : Int32) (v_z_cool : Int32) (v_z_low : Int32) (v_z_high : Int32) (v_z_ghost : Int32) (v_now : Nat → Int32) (x1 : Int32) (x2 : Int32) {C39 : Int32 → (Nat → Int32) → (Nat → Int32) → (Nat → Int32) → Prop} (hC39 : ∀ (v_z_dead : Int32) (v_trial : Nat → Int32) (v_pulses : Nat → Int32) (v_worth : Nat → Int32), C39 v_z_dead v_trial v_pulses v_worth → g_G Γ (g_Rm 5 112) 6 39 [(0, .ref h0), (1, .int x1), (2, .int x2)] [] (W_X8_share (g_env Γ) h0 h1 h2 h3 h4 o0 o1 o2 o3 o4 o5 o6 o7 o8 o9 o10 o11 o12 o13 o14 o15 o16 o17 o18 o19 o20 o21 o22 o23 v_z_dots v_z_cool v_z_low v_z_high v_z_ghost v_z_dead v_now v_trial v_pulses v_worth)) : ∀ (n : Nat) (x3 : Int32) (v_z_dead : Int32) (v_trial : Nat → Int32) (v_pulses : Nat → Int32) (v_worth : Nat → Int32), P_X8_share_L12 v_z_dots v_z_cool v_z_low v_z_high v_z_ghost v_now x1 x2 C39 n x3 v_z_dead v_trial v_pulses v_worth → g_G Γ (g_Rm 5 112) 6 12 [(0, .ref h0), (1, .int x1), (2, .int x2), (3, .int x3)] [] (W_X8_share (g_env Γ) h0 h1 h2 h3 h4 o0 o1 o2 o3 o4 o5 o6 o7 o8 o9 o10 o11 o12 o13 o14 o15 o16 o17 o18 o19 o20 o21 o22 o23 v_z_dots v_z_cool v_z_low v_z_high v_z_ghost v_z_dead v_now v_trial v_pulses v_worth) := by
  intro n
  induction n with
  | zero => intro x3 v_z_dead v_trial v_pulses v_worth h; exact False.elim h
  | succ n ih =>
    intro x3 v_z_dead v_trial v_pulses v_worth h
    unfold P_X8_share_L12 at h
    refine g_iload_n 12 X dX8_share_12 3 rfl rfl ?_
    refine g_iconst 13 X (1 : Int32) dX8_share_13 k_ic_1 ?_
    refine g_aload_n 14 X dX8_share_14 0 rfl rfl ?_
    refine g_get 15 X fa_X8_59 dX8_share_15 0 rfl rfl ?_
    refine g_ishl 18 X dX8_share_18 ?_
    refine g_icmp_ge 19 X 39 dX8_share_19 (by decide) (fun c => ?_) (fun c => ?_)
    · replace h := h.1 c
      refine g_sub [(0, .ref h0), (1, .int x1), (2, .int x2)] [0, 1, 2] rfl ?_
      exact hC39 v_z_dead v_trial v_pulses v_worth h
    · replace h := h.2 c
      refine g_aload_n 22 X dX8_share_22 0 rfl rfl ?_
      refine g_get 23 X fa_X8_47 dX8_share_23 0 rfl rfl ?_
      refine g_iload_n 26 X dX8_share_26 3 rfl rfl ?_
      refine g_aload_n 27 X dX8_share_27 0 rfl rfl ?_
      refine g_iload_n 28 X dX8_share_28 3 rfl rfl ?_
      refine g_cVI 29 X (st := [.int x3, .ref h4]) mv_X8_232 dX8_share_29 h0 8 [.int x3] (c_X8_rightWith h0 h1 h2 h3 o0 o1 o2 o3 o4 o5 o6 o7 o8 o9 o10 o11 o12 o13 o14 (.ref h4) o15 o16 o17 o18 o19 o20 o21 o22 o23 v_z_dots v_z_cool v_z_low v_z_high v_z_ghost v_z_dead v_now v_trial v_pulses x3 h) [0, 1, 2, 3] (fun u : Int32 × (Nat → Int32) × (Nat → Int32) => (W_X8_share (g_env Γ) h0 h1 h2 h3 h4 o0 o1 o2 o3 o4 o5 o6 o7 o8 o9 o10 o11 o12 o13 o14 o15 o16 o17 o18 o19 o20 o21 o22 o23 v_z_dots v_z_cool v_z_low v_z_high v_z_ghost u.1 v_now u.2.1 u.2.2 v_worth)) rfl ⟨(Nat.le_of_ble_eq_true rfl), (Nat.le_of_ble_eq_true rfl)⟩ ⟨rfl, rfl⟩ (Nat.le_of_ble_eq_true rfl) rfl rfl rfl (by decide) (fun _ => rfl) (fun _ => rfl) (fun r7 u h => ?_)
      obtain ⟨v_z_dead_8, v_trial_9, v_pulses_10⟩ := u
      dsimp only at h ⊢
      have f11 := h.1; replace h := h.2
      refine g_iast 32 X (W_X8_share (g_env Γ) h0 h1 h2 h3 h4 o0 o1 o2 o3 o4 o5 o6 o7 o8 o9 o10 o11 o12 o13 o14 o15 o16 o17 o18 o19 o20 o21 o22 o23 v_z_dots v_z_cool v_z_low v_z_high v_z_ghost v_z_dead_8 v_now v_trial_9 v_pulses_10 (upd v_worth (Int32.toNatClampNeg x3) r7)) dX8_share_32 4 rfl rfl f11 rfl ?_
      refine g_iinc 33 X (x3 + (1 : Int32)) [(3, .int (x3 + (1 : Int32))), (0, .ref h0), (1, .int x1), (2, .int x2)] dX8_share_33 3 rfl (k_ii_1 _) (Nat.le_of_ble_eq_true rfl) rfl ?_
      refine g_goto 36 X 12 dX8_share_36 (by decide) ?_
      refine g_sub [(0, .ref h0), (1, .int x1), (2, .int x2), (3, .int (x3 + (1 : Int32)))] [1, 2, 3, 0] rfl ?_
      exact ih (x3 + (1 : Int32)) v_z_dead_8 v_trial_9 v_pulses_10 (upd v_worth (Int32.toNatClampNeg x3) r7) h
set_option maxHeartbeats 4000000 in
set_option maxRecDepth 100000 in
theorem l_X8_share_44 {Γ : g_C} (X : g_X Γ (g_Rm 5 112) cX8_share RX8 6) (h0 : Nat) (h1 : Nat) (h2 : Nat) (h3 : Nat) (h4 : Nat) (o0 o1 o2 o3 o4 o5 o6 o7 o8 o9 o10 o11 o12 o13 o14 o15 o16 o17 o18 o19 o20 o21 o22 o23 : Value) (v_z_dots : Int32) (v_z_cool : Int32) (v_z_low : Int32) (v_z_high : Int32) (v_z_ghost : Int32) (v_z_dead : Int32) (v_now : Nat → Int32) (v_trial : Nat → Int32) (v_pulses : Nat → Int32) (v_worth : Nat → Int32) (x1 : Int32) (x2 : Int32) {C118 : Int32 → Prop} (hC118 : ∀ (x3 : Int32), C118 x3 → g_G Γ (g_Rm 5 112) 6 118 [(0, .ref h0), (2, .int x2), (3, .int x3)] [] (W_X8_share (g_env Γ) h0 h1 h2 h3 h4 o0 o1 o2 o3 o4 o5 o6 o7 o8 o9 o10 o11 o12 o13 o14 o15 o16 o17 o18 o19 o20 o21 o22 o23 v_z_dots v_z_cool v_z_low v_z_high v_z_ghost v_z_dead v_now v_trial v_pulses v_worth)) : ∀ (n : Nat) (x3 : Int32) (x4 : Int32), P_X8_share_L44 v_z_dots v_worth x1 x2 C118 n x3 x4 → g_G Γ (g_Rm 5 112) 6 44 [(0, .ref h0), (1, .int x1), (2, .int x2), (3, .int x3), (4, .int x4)] [] (W_X8_share (g_env Γ) h0 h1 h2 h3 h4 o0 o1 o2 o3 o4 o5 o6 o7 o8 o9 o10 o11 o12 o13 o14 o15 o16 o17 o18 o19 o20 o21 o22 o23 v_z_dots v_z_cool v_z_low v_z_high v_z_ghost v_z_dead v_now v_trial v_pulses v_worth) := by
  intro n
  induction n with
  | zero => intro x3 x4 h; exact False.elim h
  | succ n ih =>
    intro x3 x4 h
    unfold P_X8_share_L44 at h
    refine g_iload 44 X dX8_share_44 4 rfl ?_
    refine g_iconst 46 X (1 : Int32) dX8_share_46 k_ic_1 ?_
    refine g_aload_n 47 X dX8_share_47 0 rfl rfl ?_
    refine g_get 48 X fa_X8_59 dX8_share_48 0 rfl rfl ?_
    refine g_ishl 51 X dX8_share_51 ?_
    refine g_icmp_ge 52 X 118 dX8_share_52 (by decide) (fun c => ?_) (fun c => ?_)
    · replace h := h.1 c
      refine g_sub [(0, .ref h0), (2, .int x2), (3, .int x3)] [0, 2, 3] rfl ?_
      exact hC118 x3 h
    · replace h := h.2 c
      refine g_iload 55 X dX8_share_55 4 rfl ?_
      refine g_iload_n 57 X dX8_share_57 1 rfl rfl ?_
      refine g_cSI 58 X (st := []) mv_X8_123 dX8_share_58 [.int x4, .int x1] (c_X8_has x4 x1 h) [] (fun u : Unit => (W_X8_share (g_env Γ) h0 h1 h2 h3 h4 o0 o1 o2 o3 o4 o5 o6 o7 o8 o9 o10 o11 o12 o13 o14 o15 o16 o17 o18 o19 o20 o21 o22 o23 v_z_dots v_z_cool v_z_low v_z_high v_z_ghost v_z_dead v_now v_trial v_pulses v_worth)) rfl ⟨(Nat.le_of_ble_eq_true rfl), (Nat.le_of_ble_eq_true rfl)⟩ ⟨rfl, rfl⟩ (Nat.le_of_ble_eq_true rfl) rfl (by decide) (fun _ => rfl) (fun _ => rfl) (fun r22 u h => ?_)
      refine g_if_ne 61 X 112 dX8_share_61 (by decide) (fun c => ?_) (fun c => ?_)
      · replace h := h.1 c
        refine g_iinc 112 X (x4 + (1 : Int32)) [(4, .int (x4 + (1 : Int32))), (0, .ref h0), (1, .int x1), (2, .int x2), (3, .int x3)] dX8_share_112 4 rfl (k_ii_1 _) (Nat.le_of_ble_eq_true rfl) rfl ?_
        refine g_goto 115 X 44 dX8_share_115 (by decide) ?_
        refine g_sub [(0, .ref h0), (1, .int x1), (2, .int x2), (3, .int x3), (4, .int (x4 + (1 : Int32)))] [1, 2, 3, 4, 0] rfl ?_
        exact ih x3 (x4 + (1 : Int32)) h
      · replace h := h.2 c
        refine g_iload 64 X dX8_share_64 4 rfl ?_
        refine g_cSI 66 X (st := []) mv_X8_235 dX8_share_66 [.int x4] (c_X8_ones x4 h) [] (fun u : Unit => (W_X8_share (g_env Γ) h0 h1 h2 h3 h4 o0 o1 o2 o3 o4 o5 o6 o7 o8 o9 o10 o11 o12 o13 o14 o15 o16 o17 o18 o19 o20 o21 o22 o23 v_z_dots v_z_cool v_z_low v_z_high v_z_ghost v_z_dead v_now v_trial v_pulses v_worth)) rfl ⟨(Nat.le_of_ble_eq_true rfl), (Nat.le_of_ble_eq_true rfl)⟩ ⟨rfl, rfl⟩ (Nat.le_of_ble_eq_true rfl) rfl (by decide) (fun _ => rfl) (fun _ => rfl) (fun r23 u h => ?_)
        refine g_istore 69 X [(5, .int r23), (0, .ref h0), (1, .int x1), (2, .int x2), (3, .int x3), (4, .int x4)] dX8_share_69 (Nat.le_of_ble_eq_true rfl) rfl ?_
        refine g_iload_n 71 X dX8_share_71 4 rfl rfl ?_
        refine g_iload 72 X dX8_share_72 0 rfl ?_
        refine g_cSI 74 X (st := [.int x3]) mv_X8_238 dX8_share_74 [.int r23] (c_X8_factorial r23 h) [] (fun u : Unit => (W_X8_share (g_env Γ) h0 h1 h2 h3 h4 o0 o1 o2 o3 o4 o5 o6 o7 o8 o9 o10 o11 o12 o13 o14 o15 o16 o17 o18 o19 o20 o21 o22 o23 v_z_dots v_z_cool v_z_low v_z_high v_z_ghost v_z_dead v_now v_trial v_pulses v_worth)) rfl ⟨(Nat.le_of_ble_eq_true rfl), (Nat.le_of_ble_eq_true rfl)⟩ ⟨rfl, rfl⟩ (Nat.le_of_ble_eq_true rfl) rfl (by decide) (fun _ => rfl) (fun _ => rfl) (fun r24 u h => ?_)
        refine g_aload_n 77 X dX8_share_77 1 rfl rfl ?_
        refine g_get 78 X fa_X8_59 dX8_share_78 0 rfl rfl ?_
        refine g_iconst 81 X (1 : Int32) dX8_share_81 k_ic_1 ?_
        refine g_isub 82 X dX8_share_82 ?_
        refine g_iload 83 X dX8_share_83 0 rfl ?_
        refine g_isub 85 X dX8_share_85 ?_
        refine g_cSI 86 X (st := [.int r24, .int x3]) mv_X8_238 dX8_share_86 [.int ((v_z_dots - (1 : Int32)) - r23)] (c_X8_factorial ((v_z_dots - (1 : Int32)) - r23) h) [] (fun u : Unit => (W_X8_share (g_env Γ) h0 h1 h2 h3 h4 o0 o1 o2 o3 o4 o5 o6 o7 o8 o9 o10 o11 o12 o13 o14 o15 o16 o17 o18 o19 o20 o21 o22 o23 v_z_dots v_z_cool v_z_low v_z_high v_z_ghost v_z_dead v_now v_trial v_pulses v_worth)) rfl ⟨(Nat.le_of_ble_eq_true rfl), (Nat.le_of_ble_eq_true rfl)⟩ ⟨rfl, rfl⟩ (Nat.le_of_ble_eq_true rfl) rfl (by decide) (fun _ => rfl) (fun _ => rfl) (fun r25 u h => ?_)
        refine g_imul 89 X dX8_share_89 ?_
        refine g_aload_n 90 X dX8_share_90 1 rfl rfl ?_
        refine g_get 91 X fa_X8_47 dX8_share_91 0 rfl rfl ?_
        refine g_iload 94 X dX8_share_94 5 rfl ?_
        refine g_iconst 96 X (1 : Int32) dX8_share_96 k_ic_1 ?_
        refine g_iload_n 97 X dX8_share_97 2 rfl rfl ?_
        refine g_ishl 98 X dX8_share_98 ?_
        refine g_ior 99 X dX8_share_99 ?_
        have f26 := h.1; replace h := h.2
        refine g_iald 100 X dX8_share_100 4 rfl rfl f26 ?_
        refine g_aload_n 101 X dX8_share_101 1 rfl rfl ?_
        refine g_get 102 X fa_X8_47 dX8_share_102 0 rfl rfl ?_
        refine g_iload 105 X dX8_share_105 5 rfl ?_
        have f27 := h.1; replace h := h.2
        refine g_iald 107 X dX8_share_107 4 rfl rfl f27 ?_
        refine g_isub 108 X dX8_share_108 ?_
        refine g_imul 109 X dX8_share_109 ?_
        refine g_iadd 110 X dX8_share_110 ?_
        refine g_istore_n 111 X [(3, .int (x3 + ((r24 * r25) * ((v_worth (Int32.toNatClampNeg (x4 ||| ((1 : Int32) <<< (x1 &&& (31 : Int32)))))) - (v_worth (Int32.toNatClampNeg x4)))))), (5, .int r23), (0, .ref h0), (1, .int x1), (2, .int x2), (4, .int x4)] dX8_share_111 rfl (Nat.le_of_ble_eq_true rfl) rfl ?_
        refine g_iinc 112 X (x4 + (1 : Int32)) [(4, .int (x4 + (1 : Int32))), (3, .int (x3 + ((r24 * r25) * ((v_worth (Int32.toNatClampNeg (x4 ||| ((1 : Int32) <<< (x1 &&& (31 : Int32)))))) - (v_worth (Int32.toNatClampNeg x4)))))), (5, .int r23), (0, .ref h0), (1, .int x1), (2, .int x2)] dX8_share_112 5 rfl (k_ii_1 _) (Nat.le_of_ble_eq_true rfl) rfl ?_
        refine g_goto 115 X 44 dX8_share_115 (by decide) ?_
        refine g_sub [(0, .ref h0), (1, .int x1), (2, .int x2), (3, .int (x3 + ((r24 * r25) * ((v_worth (Int32.toNatClampNeg (x4 ||| ((1 : Int32) <<< (x1 &&& (31 : Int32)))))) - (v_worth (Int32.toNatClampNeg x4)))))), (4, .int (x4 + (1 : Int32)))] [3, 4, 5, 1, 0] rfl ?_
        exact ih (x3 + ((r24 * r25) * ((v_worth (Int32.toNatClampNeg (x4 ||| ((1 : Int32) <<< (x1 &&& (31 : Int32)))))) - (v_worth (Int32.toNatClampNeg x4))))) (x4 + (1 : Int32)) h
set_option maxHeartbeats 4000000 in
set_option maxRecDepth 100000 in
theorem c_X8_share {l : Launch} {E : g_E} (h0 : Nat) (h1 : Nat) (h2 : Nat) (h3 : Nat) (h4 : Nat) (o0 o1 o2 o3 o4 o5 o6 o7 o8 o9 o10 o11 o12 o13 o14 o15 o16 o17 o18 o19 o20 o21 o22 o23 : Value) (v_z_dots : Int32) (v_z_cool : Int32) (v_z_low : Int32) (v_z_high : Int32) (v_z_ghost : Int32) (v_z_dead : Int32) (v_now : Nat → Int32) (v_trial : Nat → Int32) (v_pulses : Nat → Int32) (v_worth : Nat → Int32) (b1 : Int32) (b2 : Int32) {K : Int32 → Int32 → (Nat → Int32) → (Nat → Int32) → (Nat → Int32) → Prop} (h : P_X8_share b1 b2 v_z_dots v_z_cool v_z_low v_z_high v_z_ghost v_z_dead v_now v_trial v_pulses v_worth K) : g_CI l E yX8_share cX8_share 6 .int (g_Rm 5 112) [.ref h0, .int b1, .int b2] (W_X8_share E h0 h1 h2 h3 h4 o0 o1 o2 o3 o4 o5 o6 o7 o8 o9 o10 o11 o12 o13 o14 o15 o16 o17 o18 o19 o20 o21 o22 o23 v_z_dots v_z_cool v_z_low v_z_high v_z_ghost v_z_dead v_now v_trial v_pulses v_worth) (fun r (u : Int32 × (Nat → Int32) × (Nat → Int32) × (Nat → Int32)) => K r u.1 u.2.1 u.2.2.1 u.2.2.2) (fun (u : Int32 × (Nat → Int32) × (Nat → Int32) × (Nat → Int32)) => (W_X8_share E h0 h1 h2 h3 h4 o0 o1 o2 o3 o4 o5 o6 o7 o8 o9 o10 o11 o12 o13 o14 o15 o16 o17 o18 o19 o20 o21 o22 o23 v_z_dots v_z_cool v_z_low v_z_high v_z_ghost u.1 v_now u.2.1 u.2.2.1 u.2.2.2)) := by
  refine g_entI RX8 (by decide) rfl (Nat.le_of_ble_eq_true rfl) ?_
  intro Γ X hE hl ret
  subst hE
  subst hl
  unfold P_X8_share at h
  show g_G Γ (g_Rm 5 112) 6 0 [(0, .ref h0), (1, .int b1), (2, .int b2)] [] (W_X8_share (g_env Γ) h0 h1 h2 h3 h4 o0 o1 o2 o3 o4 o5 o6 o7 o8 o9 o10 o11 o12 o13 o14 o15 o16 o17 o18 o19 o20 o21 o22 o23 v_z_dots v_z_cool v_z_low v_z_high v_z_ghost v_z_dead v_now v_trial v_pulses v_worth)
  refine g_aload_n 0 X dX8_share_0 0 rfl rfl ?_
  refine g_iload_n 1 X dX8_share_1 1 rfl rfl ?_
  refine g_cVI 2 X (st := []) mv_X8_188 dX8_share_2 h0 8 [.int b1] (c_X8_isDot h0 o0 o1 (.int v_z_cool) o2 (.int v_z_low) (.int v_z_high) (.int v_z_ghost) (.ref h1) (.ref h2) o3 o4 o5 o6 o7 o8 o9 o10 o11 o12 (.int v_z_dead) (.ref h3) o13 o14 (.ref h4) o15 o16 o17 o18 o19 o20 o21 o22 o23 v_z_dots b1 h) [0] (fun u : Unit => (W_X8_share (g_env Γ) h0 h1 h2 h3 h4 o0 o1 o2 o3 o4 o5 o6 o7 o8 o9 o10 o11 o12 o13 o14 o15 o16 o17 o18 o19 o20 o21 o22 o23 v_z_dots v_z_cool v_z_low v_z_high v_z_ghost v_z_dead v_now v_trial v_pulses v_worth)) rfl ⟨(Nat.le_of_ble_eq_true rfl), (Nat.le_of_ble_eq_true rfl)⟩ ⟨rfl, rfl⟩ (Nat.le_of_ble_eq_true rfl) rfl rfl rfl (by decide) (fun _ => rfl) (fun _ => rfl) (fun r1 u h => ?_)
  refine g_if_ne 5 X 10 dX8_share_5 (by decide) (fun c => ?_) (fun c => ?_)
  · replace h := h.1 c
    refine g_iconst 10 X (0 : Int32) dX8_share_10 k_ic_0 ?_
    refine g_istore_n 11 X [(3, .int (0 : Int32)), (0, .ref h0), (1, .int b1), (2, .int b2)] dX8_share_11 rfl (Nat.le_of_ble_eq_true rfl) rfl ?_
    obtain ⟨n32, h⟩ := h
    refine g_sub [(0, .ref h0), (1, .int b1), (2, .int b2), (3, .int (0 : Int32))] [1, 2, 3, 0] rfl ?_
    refine l_X8_share_12 X h0 h1 h2 h3 h4 o0 o1 o2 o3 o4 o5 o6 o7 o8 o9 o10 o11 o12 o13 o14 o15 o16 o17 o18 o19 o20 o21 o22 o23 v_z_dots v_z_cool v_z_low v_z_high v_z_ghost v_now b1 b2 (fun v_z_dead_12 v_trial_13 v_pulses_14 v_worth_15 h => ?_) n32 (0 : Int32) v_z_dead v_trial v_pulses v_worth h
    · refine g_iconst 39 X (0 : Int32) dX8_share_39 k_ic_0 ?_
      refine g_istore_n 40 X [(3, .int (0 : Int32)), (0, .ref h0), (1, .int b1), (2, .int b2)] dX8_share_40 rfl (Nat.le_of_ble_eq_true rfl) rfl ?_
      refine g_iconst 41 X (0 : Int32) dX8_share_41 k_ic_0 ?_
      refine g_istore 42 X [(4, .int (0 : Int32)), (3, .int (0 : Int32)), (0, .ref h0), (1, .int b1), (2, .int b2)] dX8_share_42 (Nat.le_of_ble_eq_true rfl) rfl ?_
      obtain ⟨n31, h⟩ := h
      refine g_sub [(0, .ref h0), (1, .int b1), (2, .int b2), (3, .int (0 : Int32)), (4, .int (0 : Int32))] [2, 3, 4, 1, 0] rfl ?_
      refine l_X8_share_44 X h0 h1 h2 h3 h4 o0 o1 o2 o3 o4 o5 o6 o7 o8 o9 o10 o11 o12 o13 o14 o15 o16 o17 o18 o19 o20 o21 o22 o23 v_z_dots v_z_cool v_z_low v_z_high v_z_ghost v_z_dead_12 v_now v_trial_13 v_pulses_14 v_worth_15 b1 b2 (fun x28 h => ?_) n31 (0 : Int32) (0 : Int32) h
      · refine g_iload_n 118 X dX8_share_118 2 rfl rfl ?_
        refine g_aload_n 119 X dX8_share_119 0 rfl rfl ?_
        refine g_get 120 X fa_X8_59 dX8_share_120 0 rfl rfl ?_
        refine g_cSI 123 X (st := [.int x28]) mv_X8_238 dX8_share_123 [.int v_z_dots] (c_X8_factorial v_z_dots h) [] (fun u : Unit => (W_X8_share (g_env Γ) h0 h1 h2 h3 h4 o0 o1 o2 o3 o4 o5 o6 o7 o8 o9 o10 o11 o12 o13 o14 o15 o16 o17 o18 o19 o20 o21 o22 o23 v_z_dots v_z_cool v_z_low v_z_high v_z_ghost v_z_dead_12 v_now v_trial_13 v_pulses_14 v_worth_15)) rfl ⟨(Nat.le_of_ble_eq_true rfl), (Nat.le_of_ble_eq_true rfl)⟩ ⟨rfl, rfl⟩ (Nat.le_of_ble_eq_true rfl) rfl (by decide) (fun _ => rfl) (fun _ => rfl) (fun r29 u h => ?_)
        refine g_iload_n 126 X dX8_share_126 1 rfl rfl ?_
        refine g_cSI 127 X (st := []) mv_X8_241 dX8_share_127 [.int x28, .int r29, .int b2] (c_X8_fraction x28 r29 b2 h) [] (fun u : Unit => (W_X8_share (g_env Γ) h0 h1 h2 h3 h4 o0 o1 o2 o3 o4 o5 o6 o7 o8 o9 o10 o11 o12 o13 o14 o15 o16 o17 o18 o19 o20 o21 o22 o23 v_z_dots v_z_cool v_z_low v_z_high v_z_ghost v_z_dead_12 v_now v_trial_13 v_pulses_14 v_worth_15)) rfl ⟨(Nat.le_of_ble_eq_true rfl), (Nat.le_of_ble_eq_true rfl)⟩ ⟨rfl, rfl⟩ (Nat.le_of_ble_eq_true rfl) rfl (by decide) (fun _ => rfl) (fun _ => rfl) (fun r30 u h => ?_)
        exact ret 130 _ _ (v_z_dead_12, v_trial_13, v_pulses_14, v_worth_15) dX8_share_130 (vp_nar_int _) h
  · replace h := h.2 c
    refine g_iconst 8 X (-1 : Int32) dX8_share_8 k_ic_m1 ?_
    exact ret 9 _ _ (v_z_dead, v_trial, v_pulses, v_worth) dX8_share_9 (vp_nar_int _) h

def W_X8_chance (E : g_E) (h0 : Nat) (h1 : Nat) (h2 : Nat) (h3 : Nat) (o0 o1 o2 o3 o4 o5 o6 o7 o8 o9 o10 o11 o12 o13 o14 o15 o16 o17 o18 o19 o20 o21 o22 o23 o24 : Value) (v_z_dots : Int32) (v_z_cool : Int32) (v_z_low : Int32) (v_z_high : Int32) (v_z_ghost : Int32) (v_z_dead : Int32) (v_now : Nat → Int32) (v_trial : Nat → Int32) (v_pulses : Nat → Int32) : va_W := [(h0, .inr (8, [o0, o1, .int v_z_dots, .int v_z_cool, o2, .int v_z_low, .int v_z_high, .int v_z_ghost, .ref h1, .ref h2, o3, o4, o5, o6, o7, o8, o9, o10, o11, o12, .int v_z_dead, .ref h3, o13, o14, o15, o16, o17, o18, o19, o20, o21, o22, o23, o24])), (h1, .inl (E.2.1, 30, .inl v_now)), (h2, .inl (E.2.1, 30, .inl v_trial)), (h3, .inl (E.2.1, 8, .inl v_pulses))]
def P_X8_chance_L33 (v_z_dots : Int32) (v_z_cool : Int32) (v_z_low : Int32) (v_z_high : Int32) (v_z_ghost : Int32) (v_now : Nat → Int32) (x1 : Int32) (x2 : Int32) (x3 : Int32) (C96 : Int32 → Int32 → (Nat → Int32) → (Nat → Int32) → Prop) : Nat → Int32 → Int32 → Int32 → (Nat → Int32) → (Nat → Int32) → Prop
  | 0, _, _, _, _, _ => False
  | n + 1, x4, x5, v_z_dead, v_trial, v_pulses => ((((1 : Int32) <<< (v_z_dots &&& (31 : Int32))) ≤ x5 → C96 x4 v_z_dead v_trial v_pulses) ∧ (¬ ((1 : Int32) <<< (v_z_dots &&& (31 : Int32))) ≤ x5 → (P_X8_rightWith x5 v_z_dots v_z_cool v_z_low v_z_high v_z_ghost v_z_dead v_now v_trial v_pulses (fun r3 v_z_dead_4 v_trial_5 v_pulses_6 => ((r3 < x1 → P_X8_chance_L33 v_z_dots v_z_cool v_z_low v_z_high v_z_ghost v_now x1 x2 x3 C96 n (x4 + (0 : Int32)) (x5 + (1 : Int32)) v_z_dead_4 v_trial_5 v_pulses_6) ∧ (¬ r3 < x1 → (P_X8_ones x5 (fun r7 => (P_X8_raised ((10 : Int32) - x2) r7 (fun r8 => (P_X8_ones x5 (fun r9 => (P_X8_raised x2 (v_z_dots - r9) (fun r10 => P_X8_chance_L33 v_z_dots v_z_cool v_z_low v_z_high v_z_ghost v_now x1 x2 x3 C96 n (x4 + (r8 * r10)) (x5 + (1 : Int32)) v_z_dead_4 v_trial_5 v_pulses_6))))))))))))))
def P_X8_chance (b1 : Int32) (b2 : Int32) (b3 : Int32) (v_z_dots : Int32) (v_z_cool : Int32) (v_z_low : Int32) (v_z_high : Int32) (v_z_ghost : Int32) (v_z_dead : Int32) (v_now : Nat → Int32) (v_trial : Nat → Int32) (v_pulses : Nat → Int32) (K : Int32 → Int32 → (Nat → Int32) → (Nat → Int32) → Prop) : Prop := (P_X8_in (Int32.toInt64 b1) (0 : Int64) (64 : Int64) (fun r1 => ((r1 = (0 : Int32) → K (-2 : Int32) v_z_dead v_trial v_pulses) ∧ (¬ r1 = (0 : Int32) → (P_X8_in (Int32.toInt64 b2) (0 : Int64) (10 : Int64) (fun r2 => ((¬ r2 = (0 : Int32) → (∃ ne : Nat, P_X8_chance_L33 v_z_dots v_z_cool v_z_low v_z_high v_z_ghost v_now b1 b2 b3 (fun x19 v_z_dead_20 v_trial_21 v_pulses_22 => (P_X8_raised (10 : Int32) v_z_dots (fun r23 => (P_X8_fraction x19 r23 b3 (fun r24 => K r24 v_z_dead_20 v_trial_21 v_pulses_22))))) ne (0 : Int32) (0 : Int32) v_z_dead v_trial v_pulses)) ∧ (r2 = (0 : Int32) → K (-2 : Int32) v_z_dead v_trial v_pulses))))))))
set_option maxHeartbeats 4000000 in
set_option maxRecDepth 100000 in
theorem l_X8_chance_33 {Γ : g_C} (X : g_X Γ (g_Rm 5 112) cX8_chance RX8 6) (h0 : Nat) (h1 : Nat) (h2 : Nat) (h3 : Nat) (o0 o1 o2 o3 o4 o5 o6 o7 o8 o9 o10 o11 o12 o13 o14 o15 o16 o17 o18 o19 o20 o21 o22 o23 o24 : Value) (v_z_dots : Int32) (v_z_cool : Int32) (v_z_low : Int32) (v_z_high : Int32) (v_z_ghost : Int32) (v_now : Nat → Int32) (x1 : Int32) (x2 : Int32) (x3 : Int32) {C96 : Int32 → Int32 → (Nat → Int32) → (Nat → Int32) → Prop} (hC96 : ∀ (x4 : Int32) (v_z_dead : Int32) (v_trial : Nat → Int32) (v_pulses : Nat → Int32), C96 x4 v_z_dead v_trial v_pulses → g_G Γ (g_Rm 5 112) 6 96 [(0, .ref h0), (3, .int x3), (4, .int x4)] [] (W_X8_chance (g_env Γ) h0 h1 h2 h3 o0 o1 o2 o3 o4 o5 o6 o7 o8 o9 o10 o11 o12 o13 o14 o15 o16 o17 o18 o19 o20 o21 o22 o23 o24 v_z_dots v_z_cool v_z_low v_z_high v_z_ghost v_z_dead v_now v_trial v_pulses)) : ∀ (n : Nat) (x4 : Int32) (x5 : Int32) (v_z_dead : Int32) (v_trial : Nat → Int32) (v_pulses : Nat → Int32), P_X8_chance_L33 v_z_dots v_z_cool v_z_low v_z_high v_z_ghost v_now x1 x2 x3 C96 n x4 x5 v_z_dead v_trial v_pulses → g_G Γ (g_Rm 5 112) 6 33 [(0, .ref h0), (1, .int x1), (2, .int x2), (3, .int x3), (4, .int x4), (5, .int x5)] [] (W_X8_chance (g_env Γ) h0 h1 h2 h3 o0 o1 o2 o3 o4 o5 o6 o7 o8 o9 o10 o11 o12 o13 o14 o15 o16 o17 o18 o19 o20 o21 o22 o23 o24 v_z_dots v_z_cool v_z_low v_z_high v_z_ghost v_z_dead v_now v_trial v_pulses) := by
  intro n
  induction n with
  | zero => intro x4 x5 v_z_dead v_trial v_pulses h; exact False.elim h
  | succ n ih =>
    intro x4 x5 v_z_dead v_trial v_pulses h
    unfold P_X8_chance_L33 at h
    refine g_iload 33 X dX8_chance_33 5 rfl ?_
    refine g_iconst 35 X (1 : Int32) dX8_chance_35 k_ic_1 ?_
    refine g_aload_n 36 X dX8_chance_36 0 rfl rfl ?_
    refine g_get 37 X fa_X8_59 dX8_chance_37 0 rfl rfl ?_
    refine g_ishl 40 X dX8_chance_40 ?_
    refine g_icmp_ge 41 X 96 dX8_chance_41 (by decide) (fun c => ?_) (fun c => ?_)
    · replace h := h.1 c
      refine g_sub [(0, .ref h0), (3, .int x3), (4, .int x4)] [0, 3, 4] rfl ?_
      exact hC96 x4 v_z_dead v_trial v_pulses h
    · replace h := h.2 c
      refine g_iload 44 X dX8_chance_44 4 rfl ?_
      refine g_aload_n 46 X dX8_chance_46 0 rfl rfl ?_
      refine g_iload 47 X dX8_chance_47 5 rfl ?_
      refine g_cVI 49 X (st := [.int x4]) mv_X8_232 dX8_chance_49 h0 8 [.int x5] (c_X8_rightWith h0 h1 h2 h3 o0 o1 o2 o3 o4 o5 o6 o7 o8 o9 o10 o11 o12 o13 o14 o15 o16 o17 o18 o19 o20 o21 o22 o23 o24 v_z_dots v_z_cool v_z_low v_z_high v_z_ghost v_z_dead v_now v_trial v_pulses x5 h) [0, 1, 2, 3] (fun u : Int32 × (Nat → Int32) × (Nat → Int32) => (W_X8_chance (g_env Γ) h0 h1 h2 h3 o0 o1 o2 o3 o4 o5 o6 o7 o8 o9 o10 o11 o12 o13 o14 o15 o16 o17 o18 o19 o20 o21 o22 o23 o24 v_z_dots v_z_cool v_z_low v_z_high v_z_ghost u.1 v_now u.2.1 u.2.2)) rfl ⟨(Nat.le_of_ble_eq_true rfl), (Nat.le_of_ble_eq_true rfl)⟩ ⟨rfl, rfl⟩ (Nat.le_of_ble_eq_true rfl) rfl rfl rfl (by decide) (fun _ => rfl) (fun _ => rfl) (fun r11 u h => ?_)
      obtain ⟨v_z_dead_12, v_trial_13, v_pulses_14⟩ := u
      dsimp only at h ⊢
      refine g_iload_n 52 X dX8_chance_52 1 rfl rfl ?_
      refine g_icmp_lt 53 X 86 dX8_chance_53 (by decide) (fun c => ?_) (fun c => ?_)
      · replace h := h.1 c
        refine g_iconst 86 X (0 : Int32) dX8_chance_86 k_ic_0 ?_
        refine g_iadd 87 X dX8_chance_87 ?_
        refine g_istore 88 X [(4, .int (x4 + (0 : Int32))), (0, .ref h0), (1, .int x1), (2, .int x2), (3, .int x3), (5, .int x5)] dX8_chance_88 (Nat.le_of_ble_eq_true rfl) rfl ?_
        refine g_iinc 90 X (x5 + (1 : Int32)) [(5, .int (x5 + (1 : Int32))), (4, .int (x4 + (0 : Int32))), (0, .ref h0), (1, .int x1), (2, .int x2), (3, .int x3)] dX8_chance_90 5 rfl (k_ii_1 _) (Nat.le_of_ble_eq_true rfl) rfl ?_
        refine g_goto 93 X 33 dX8_chance_93 (by decide) ?_
        refine g_sub [(0, .ref h0), (1, .int x1), (2, .int x2), (3, .int x3), (4, .int (x4 + (0 : Int32))), (5, .int (x5 + (1 : Int32)))] [2, 3, 4, 5, 1, 0] rfl ?_
        exact ih (x4 + (0 : Int32)) (x5 + (1 : Int32)) v_z_dead_12 v_trial_13 v_pulses_14 h
      · replace h := h.2 c
        refine g_bipush 56 X (10 : Int32) dX8_chance_56 k_bp_10 ?_
        refine g_iload_n 58 X dX8_chance_58 2 rfl rfl ?_
        refine g_isub 59 X dX8_chance_59 ?_
        refine g_iload 60 X dX8_chance_60 5 rfl ?_
        refine g_cSI 62 X (st := [.int ((10 : Int32) - x2), .int x4]) mv_X8_235 dX8_chance_62 [.int x5] (c_X8_ones x5 h) [] (fun u : Unit => (W_X8_chance (g_env Γ) h0 h1 h2 h3 o0 o1 o2 o3 o4 o5 o6 o7 o8 o9 o10 o11 o12 o13 o14 o15 o16 o17 o18 o19 o20 o21 o22 o23 o24 v_z_dots v_z_cool v_z_low v_z_high v_z_ghost v_z_dead_12 v_now v_trial_13 v_pulses_14)) rfl ⟨(Nat.le_of_ble_eq_true rfl), (Nat.le_of_ble_eq_true rfl)⟩ ⟨rfl, rfl⟩ (Nat.le_of_ble_eq_true rfl) rfl (by decide) (fun _ => rfl) (fun _ => rfl) (fun r15 u h => ?_)
        refine g_cSI 65 X (st := [.int x4]) mv_X8_249 dX8_chance_65 [.int ((10 : Int32) - x2), .int r15] (c_X8_raised ((10 : Int32) - x2) r15 h) [] (fun u : Unit => (W_X8_chance (g_env Γ) h0 h1 h2 h3 o0 o1 o2 o3 o4 o5 o6 o7 o8 o9 o10 o11 o12 o13 o14 o15 o16 o17 o18 o19 o20 o21 o22 o23 o24 v_z_dots v_z_cool v_z_low v_z_high v_z_ghost v_z_dead_12 v_now v_trial_13 v_pulses_14)) rfl ⟨(Nat.le_of_ble_eq_true rfl), (Nat.le_of_ble_eq_true rfl)⟩ ⟨rfl, rfl⟩ (Nat.le_of_ble_eq_true rfl) rfl (by decide) (fun _ => rfl) (fun _ => rfl) (fun r16 u h => ?_)
        refine g_iload_n 68 X dX8_chance_68 2 rfl rfl ?_
        refine g_aload_n 69 X dX8_chance_69 0 rfl rfl ?_
        refine g_get 70 X fa_X8_59 dX8_chance_70 0 rfl rfl ?_
        refine g_iload 73 X dX8_chance_73 5 rfl ?_
        refine g_cSI 75 X (st := [.int v_z_dots, .int x2, .int r16, .int x4]) mv_X8_235 dX8_chance_75 [.int x5] (c_X8_ones x5 h) [] (fun u : Unit => (W_X8_chance (g_env Γ) h0 h1 h2 h3 o0 o1 o2 o3 o4 o5 o6 o7 o8 o9 o10 o11 o12 o13 o14 o15 o16 o17 o18 o19 o20 o21 o22 o23 o24 v_z_dots v_z_cool v_z_low v_z_high v_z_ghost v_z_dead_12 v_now v_trial_13 v_pulses_14)) rfl ⟨(Nat.le_of_ble_eq_true rfl), (Nat.le_of_ble_eq_true rfl)⟩ ⟨rfl, rfl⟩ (Nat.le_of_ble_eq_true rfl) rfl (by decide) (fun _ => rfl) (fun _ => rfl) (fun r17 u h => ?_)
        refine g_isub 78 X dX8_chance_78 ?_
        refine g_cSI 79 X (st := [.int r16, .int x4]) mv_X8_249 dX8_chance_79 [.int x2, .int (v_z_dots - r17)] (c_X8_raised x2 (v_z_dots - r17) h) [] (fun u : Unit => (W_X8_chance (g_env Γ) h0 h1 h2 h3 o0 o1 o2 o3 o4 o5 o6 o7 o8 o9 o10 o11 o12 o13 o14 o15 o16 o17 o18 o19 o20 o21 o22 o23 o24 v_z_dots v_z_cool v_z_low v_z_high v_z_ghost v_z_dead_12 v_now v_trial_13 v_pulses_14)) rfl ⟨(Nat.le_of_ble_eq_true rfl), (Nat.le_of_ble_eq_true rfl)⟩ ⟨rfl, rfl⟩ (Nat.le_of_ble_eq_true rfl) rfl (by decide) (fun _ => rfl) (fun _ => rfl) (fun r18 u h => ?_)
        refine g_imul 82 X dX8_chance_82 ?_
        refine g_goto 83 X 87 dX8_chance_83 (by decide) ?_
        refine g_iadd 87 X dX8_chance_87 ?_
        refine g_istore 88 X [(4, .int (x4 + (r16 * r18))), (0, .ref h0), (1, .int x1), (2, .int x2), (3, .int x3), (5, .int x5)] dX8_chance_88 (Nat.le_of_ble_eq_true rfl) rfl ?_
        refine g_iinc 90 X (x5 + (1 : Int32)) [(5, .int (x5 + (1 : Int32))), (4, .int (x4 + (r16 * r18))), (0, .ref h0), (1, .int x1), (2, .int x2), (3, .int x3)] dX8_chance_90 5 rfl (k_ii_1 _) (Nat.le_of_ble_eq_true rfl) rfl ?_
        refine g_goto 93 X 33 dX8_chance_93 (by decide) ?_
        refine g_sub [(0, .ref h0), (1, .int x1), (2, .int x2), (3, .int x3), (4, .int (x4 + (r16 * r18))), (5, .int (x5 + (1 : Int32)))] [2, 3, 4, 5, 1, 0] rfl ?_
        exact ih (x4 + (r16 * r18)) (x5 + (1 : Int32)) v_z_dead_12 v_trial_13 v_pulses_14 h
set_option maxHeartbeats 4000000 in
set_option maxRecDepth 100000 in
theorem c_X8_chance {l : Launch} {E : g_E} (h0 : Nat) (h1 : Nat) (h2 : Nat) (h3 : Nat) (o0 o1 o2 o3 o4 o5 o6 o7 o8 o9 o10 o11 o12 o13 o14 o15 o16 o17 o18 o19 o20 o21 o22 o23 o24 : Value) (v_z_dots : Int32) (v_z_cool : Int32) (v_z_low : Int32) (v_z_high : Int32) (v_z_ghost : Int32) (v_z_dead : Int32) (v_now : Nat → Int32) (v_trial : Nat → Int32) (v_pulses : Nat → Int32) (b1 : Int32) (b2 : Int32) (b3 : Int32) {K : Int32 → Int32 → (Nat → Int32) → (Nat → Int32) → Prop} (h : P_X8_chance b1 b2 b3 v_z_dots v_z_cool v_z_low v_z_high v_z_ghost v_z_dead v_now v_trial v_pulses K) : g_CI l E yX8_chance cX8_chance 6 .int (g_Rm 5 112) [.ref h0, .int b1, .int b2, .int b3] (W_X8_chance E h0 h1 h2 h3 o0 o1 o2 o3 o4 o5 o6 o7 o8 o9 o10 o11 o12 o13 o14 o15 o16 o17 o18 o19 o20 o21 o22 o23 o24 v_z_dots v_z_cool v_z_low v_z_high v_z_ghost v_z_dead v_now v_trial v_pulses) (fun r (u : Int32 × (Nat → Int32) × (Nat → Int32)) => K r u.1 u.2.1 u.2.2) (fun (u : Int32 × (Nat → Int32) × (Nat → Int32)) => (W_X8_chance E h0 h1 h2 h3 o0 o1 o2 o3 o4 o5 o6 o7 o8 o9 o10 o11 o12 o13 o14 o15 o16 o17 o18 o19 o20 o21 o22 o23 o24 v_z_dots v_z_cool v_z_low v_z_high v_z_ghost u.1 v_now u.2.1 u.2.2)) := by
  refine g_entI RX8 (by decide) rfl (Nat.le_of_ble_eq_true rfl) ?_
  intro Γ X hE hl ret
  subst hE
  subst hl
  unfold P_X8_chance at h
  show g_G Γ (g_Rm 5 112) 6 0 [(0, .ref h0), (1, .int b1), (2, .int b2), (3, .int b3)] [] (W_X8_chance (g_env Γ) h0 h1 h2 h3 o0 o1 o2 o3 o4 o5 o6 o7 o8 o9 o10 o11 o12 o13 o14 o15 o16 o17 o18 o19 o20 o21 o22 o23 o24 v_z_dots v_z_cool v_z_low v_z_high v_z_ghost v_z_dead v_now v_trial v_pulses)
  refine g_iload_n 0 X dX8_chance_0 1 rfl rfl ?_
  refine g_i2l 1 X dX8_chance_1 ?_
  refine g_lconst 2 X (0 : Int64) dX8_chance_2 k_lc_0 ?_
  refine g_ldc2 3 X dX8_chance_3 kc_X8_245 ?_
  refine g_cSI 6 X (st := []) mv_X8_69 dX8_chance_6 [.long (Int32.toInt64 b1), .long (0 : Int64), .long (64 : Int64)] (c_X8_in (Int32.toInt64 b1) (0 : Int64) (64 : Int64) h) [] (fun u : Unit => (W_X8_chance (g_env Γ) h0 h1 h2 h3 o0 o1 o2 o3 o4 o5 o6 o7 o8 o9 o10 o11 o12 o13 o14 o15 o16 o17 o18 o19 o20 o21 o22 o23 o24 v_z_dots v_z_cool v_z_low v_z_high v_z_ghost v_z_dead v_now v_trial v_pulses)) rfl ⟨(Nat.le_of_ble_eq_true rfl), (Nat.le_of_ble_eq_true rfl)⟩ ⟨rfl, rfl⟩ (Nat.le_of_ble_eq_true rfl) rfl (by decide) (fun _ => rfl) (fun _ => rfl) (fun r1 u h => ?_)
  refine g_if_eq 9 X 24 dX8_chance_9 (by decide) (fun c => ?_) (fun c => ?_)
  · replace h := h.1 c
    refine g_bipush 24 X (-2 : Int32) dX8_chance_24 k_bp_m2 ?_
    exact ret 26 _ _ (v_z_dead, v_trial, v_pulses) dX8_chance_26 (vp_nar_int _) h
  · replace h := h.2 c
    refine g_iload_n 12 X dX8_chance_12 2 rfl rfl ?_
    refine g_i2l 13 X dX8_chance_13 ?_
    refine g_lconst 14 X (0 : Int64) dX8_chance_14 k_lc_0 ?_
    refine g_ldc2 15 X dX8_chance_15 kc_X8_247 ?_
    refine g_cSI 18 X (st := []) mv_X8_69 dX8_chance_18 [.long (Int32.toInt64 b2), .long (0 : Int64), .long (10 : Int64)] (c_X8_in (Int32.toInt64 b2) (0 : Int64) (10 : Int64) h) [] (fun u : Unit => (W_X8_chance (g_env Γ) h0 h1 h2 h3 o0 o1 o2 o3 o4 o5 o6 o7 o8 o9 o10 o11 o12 o13 o14 o15 o16 o17 o18 o19 o20 o21 o22 o23 o24 v_z_dots v_z_cool v_z_low v_z_high v_z_ghost v_z_dead v_now v_trial v_pulses)) rfl ⟨(Nat.le_of_ble_eq_true rfl), (Nat.le_of_ble_eq_true rfl)⟩ ⟨rfl, rfl⟩ (Nat.le_of_ble_eq_true rfl) rfl (by decide) (fun _ => rfl) (fun _ => rfl) (fun r2 u h => ?_)
    refine g_if_ne 21 X 27 dX8_chance_21 (by decide) (fun c => ?_) (fun c => ?_)
    · replace h := h.1 c
      refine g_iconst 27 X (0 : Int32) dX8_chance_27 k_ic_0 ?_
      refine g_istore 28 X [(4, .int (0 : Int32)), (0, .ref h0), (1, .int b1), (2, .int b2), (3, .int b3)] dX8_chance_28 (Nat.le_of_ble_eq_true rfl) rfl ?_
      refine g_iconst 30 X (0 : Int32) dX8_chance_30 k_ic_0 ?_
      refine g_istore 31 X [(5, .int (0 : Int32)), (4, .int (0 : Int32)), (0, .ref h0), (1, .int b1), (2, .int b2), (3, .int b3)] dX8_chance_31 (Nat.le_of_ble_eq_true rfl) rfl ?_
      obtain ⟨n25, h⟩ := h
      refine g_sub [(0, .ref h0), (1, .int b1), (2, .int b2), (3, .int b3), (4, .int (0 : Int32)), (5, .int (0 : Int32))] [2, 3, 4, 5, 1, 0] rfl ?_
      refine l_X8_chance_33 X h0 h1 h2 h3 o0 o1 o2 o3 o4 o5 o6 o7 o8 o9 o10 o11 o12 o13 o14 o15 o16 o17 o18 o19 o20 o21 o22 o23 o24 v_z_dots v_z_cool v_z_low v_z_high v_z_ghost v_now b1 b2 b3 (fun x19 v_z_dead_20 v_trial_21 v_pulses_22 h => ?_) n25 (0 : Int32) (0 : Int32) v_z_dead v_trial v_pulses h
      · refine g_iload 96 X dX8_chance_96 2 rfl ?_
        refine g_bipush 98 X (10 : Int32) dX8_chance_98 k_bp_10 ?_
        refine g_aload_n 100 X dX8_chance_100 0 rfl rfl ?_
        refine g_get 101 X fa_X8_59 dX8_chance_101 0 rfl rfl ?_
        refine g_cSI 104 X (st := [.int x19]) mv_X8_249 dX8_chance_104 [.int (10 : Int32), .int v_z_dots] (c_X8_raised (10 : Int32) v_z_dots h) [] (fun u : Unit => (W_X8_chance (g_env Γ) h0 h1 h2 h3 o0 o1 o2 o3 o4 o5 o6 o7 o8 o9 o10 o11 o12 o13 o14 o15 o16 o17 o18 o19 o20 o21 o22 o23 o24 v_z_dots v_z_cool v_z_low v_z_high v_z_ghost v_z_dead_20 v_now v_trial_21 v_pulses_22)) rfl ⟨(Nat.le_of_ble_eq_true rfl), (Nat.le_of_ble_eq_true rfl)⟩ ⟨rfl, rfl⟩ (Nat.le_of_ble_eq_true rfl) rfl (by decide) (fun _ => rfl) (fun _ => rfl) (fun r23 u h => ?_)
        refine g_iload_n 107 X dX8_chance_107 1 rfl rfl ?_
        refine g_cSI 108 X (st := []) mv_X8_241 dX8_chance_108 [.int x19, .int r23, .int b3] (c_X8_fraction x19 r23 b3 h) [] (fun u : Unit => (W_X8_chance (g_env Γ) h0 h1 h2 h3 o0 o1 o2 o3 o4 o5 o6 o7 o8 o9 o10 o11 o12 o13 o14 o15 o16 o17 o18 o19 o20 o21 o22 o23 o24 v_z_dots v_z_cool v_z_low v_z_high v_z_ghost v_z_dead_20 v_now v_trial_21 v_pulses_22)) rfl ⟨(Nat.le_of_ble_eq_true rfl), (Nat.le_of_ble_eq_true rfl)⟩ ⟨rfl, rfl⟩ (Nat.le_of_ble_eq_true rfl) rfl (by decide) (fun _ => rfl) (fun _ => rfl) (fun r24 u h => ?_)
        exact ret 111 _ _ (v_z_dead_20, v_trial_21, v_pulses_22) dX8_chance_111 (vp_nar_int _) h
    · replace h := h.2 c
      refine g_bipush 24 X (-2 : Int32) dX8_chance_24 k_bp_m2 ?_
      exact ret 26 _ _ (v_z_dead, v_trial, v_pulses) dX8_chance_26 (vp_nar_int _) h

def W_X8_seed (E : g_E) (h0 : Nat) (o0 o1 o2 o3 o4 o5 o6 o7 o8 o9 o10 o11 o12 o13 o14 o15 o16 o17 o18 o19 o20 o21 o22 o23 o24 o25 o26 o27 o28 o29 o30 o31 o32 : Value) (v_z_seed : Int64) : va_W := [(h0, .inr (8, [o0, o1, o2, o3, o4, o5, o6, o7, o8, o9, o10, o11, o12, o13, o14, o15, o16, o17, o18, .long v_z_seed, o19, o20, o21, o22, o23, o24, o25, o26, o27, o28, o29, o30, o31, o32]))]
def P_X8_seed (b1 : Int64) (v_z_seed : Int64) (K : Int64 → Int64 → Prop) : Prop := K v_z_seed b1
set_option maxHeartbeats 4000000 in
set_option maxRecDepth 100000 in
theorem c_X8_seed {l : Launch} {E : g_E} (h0 : Nat) (o0 o1 o2 o3 o4 o5 o6 o7 o8 o9 o10 o11 o12 o13 o14 o15 o16 o17 o18 o19 o20 o21 o22 o23 o24 o25 o26 o27 o28 o29 o30 o31 o32 : Value) (v_z_seed : Int64) (b1 : Int64) {K : Int64 → Int64 → Prop} (h : P_X8_seed b1 v_z_seed K) : g_CL l E yX8_seed cX8_seed 5 (g_Rm 0 0) [.ref h0, .long b1] (W_X8_seed E h0 o0 o1 o2 o3 o4 o5 o6 o7 o8 o9 o10 o11 o12 o13 o14 o15 o16 o17 o18 o19 o20 o21 o22 o23 o24 o25 o26 o27 o28 o29 o30 o31 o32 v_z_seed) (fun r (u : Int64) => K r u) (fun (u : Int64) => (W_X8_seed E h0 o0 o1 o2 o3 o4 o5 o6 o7 o8 o9 o10 o11 o12 o13 o14 o15 o16 o17 o18 o19 o20 o21 o22 o23 o24 o25 o26 o27 o28 o29 o30 o31 o32 u)) := by
  refine g_entL RX8 (by decide) rfl (Nat.le_of_ble_eq_true rfl) ?_
  intro Γ X hE hl ret
  subst hE
  subst hl
  unfold P_X8_seed at h
  show g_G Γ (g_Rm 0 0) 5 0 [(0, .ref h0), (1, .long b1)] [] (W_X8_seed (g_env Γ) h0 o0 o1 o2 o3 o4 o5 o6 o7 o8 o9 o10 o11 o12 o13 o14 o15 o16 o17 o18 o19 o20 o21 o22 o23 o24 o25 o26 o27 o28 o29 o30 o31 o32 v_z_seed)
  refine g_aload_n 0 X dX8_seed_0 0 rfl rfl ?_
  refine g_get 1 X fa_X8_253 dX8_seed_1 0 rfl rfl ?_
  refine g_lstore_n 4 X [(3, .long v_z_seed), (0, .ref h0), (1, .long b1)] dX8_seed_4 rfl (Nat.le_of_ble_eq_true rfl) rfl ?_
  refine g_aload_n 5 X dX8_seed_5 1 rfl rfl ?_
  refine g_lload_n 6 X dX8_seed_6 2 rfl rfl ?_
  refine g_put 7 X (W_X8_seed (g_env Γ) h0 o0 o1 o2 o3 o4 o5 o6 o7 o8 o9 o10 o11 o12 o13 o14 o15 o16 o17 o18 o19 o20 o21 o22 o23 o24 o25 o26 o27 o28 o29 o30 o31 o32 b1) fa_X8_253 pa_8_19 dX8_seed_7 0 rfl rfl rfl (Nat.le_of_ble_eq_true rfl) rfl ?_
  refine g_lload_n 10 X dX8_seed_10 0 rfl rfl ?_
  exact ret 11 _ _ (b1) dX8_seed_11 h

def W_X8_drawn (E : g_E) (h0 : Nat) (h1 : Nat) (h2 : Nat) (h3 : Nat) (o0 o1 o2 o3 o4 o5 o6 o7 o8 o9 o10 o11 o12 o13 o14 o15 o16 o17 o18 o19 o20 o21 o22 o23 : Value) (v_z_dots : Int32) (v_z_cool : Int32) (v_z_low : Int32) (v_z_high : Int32) (v_z_ghost : Int32) (v_z_seed : Int64) (v_z_dead : Int32) (v_now : Nat → Int32) (v_trial : Nat → Int32) (v_pulses : Nat → Int32) : va_W := [(h0, .inr (8, [o0, o1, .int v_z_dots, .int v_z_cool, o2, .int v_z_low, .int v_z_high, .int v_z_ghost, .ref h1, .ref h2, o3, o4, o5, o6, o7, o8, o9, o10, o11, .long v_z_seed, .int v_z_dead, .ref h3, o12, o13, o14, o15, o16, o17, o18, o19, o20, o21, o22, o23])), (h1, .inl (E.2.1, 30, .inl v_now)), (h2, .inl (E.2.1, 30, .inl v_trial)), (h3, .inl (E.2.1, 8, .inl v_pulses))]
def P_X8_drawn_L28 (v_z_dots : Int32) (v_z_cool : Int32) (v_z_low : Int32) (v_z_high : Int32) (v_z_ghost : Int32) (v_z_dead : Int32) (x1 : Int32) (C82 : Int64 → (Nat → Int32) → (Nat → Int32) → Prop) : Nat → Int32 → Int64 → (Nat → Int32) → (Nat → Int32) → Prop
  | 0, _, _, _, _ => False
  | n + 1, x2, v_z_seed, v_trial, v_pulses => ((x1 ≤ x2 → C82 v_z_seed v_trial v_pulses) ∧ (¬ x1 ≤ x2 → (P_X8_printOn ((Int64.toInt32 ((Int64.toUInt64 ((v_z_seed * (6364136223846793005 : Int64)) + (1442695040888963407 : Int64)) >>> ((Int32.toInt64 (33 : Int32)).toUInt64 &&& Int64.toUInt64 63)).toInt64)) &&& (((1 : Int32) <<< (v_z_dots &&& (31 : Int32))) - (1 : Int32))) v_z_dots v_z_cool v_z_low v_z_high v_z_ghost v_z_dead v_pulses v_trial (fun v_pulses_3 v_trial_4 => P_X8_drawn_L28 v_z_dots v_z_cool v_z_low v_z_high v_z_ghost v_z_dead x1 C82 n (x2 + (1 : Int32)) ((v_z_seed * (6364136223846793005 : Int64)) + (1442695040888963407 : Int64)) v_trial_4 v_pulses_3))))
def P_X8_drawn (b1 : Int32) (v_z_dots : Int32) (v_z_cool : Int32) (v_z_low : Int32) (v_z_high : Int32) (v_z_ghost : Int32) (v_z_seed : Int64) (v_z_dead : Int32) (v_now : Nat → Int32) (v_trial : Nat → Int32) (v_pulses : Nat → Int32) (K : Int32 → Int64 → (Nat → Int32) → (Nat → Int32) → Prop) : Prop := (P_X8_in (Int32.toInt64 b1) (1 : Int64) (20 : Int64) (fun r1 => ((¬ r1 = (0 : Int32) → (P_X8_copy v_now v_trial (fun v_trial_2 => (∃ ne : Nat, P_X8_drawn_L28 v_z_dots v_z_cool v_z_low v_z_high v_z_ghost v_z_dead b1 (fun v_z_seed_7 v_trial_8 v_pulses_9 => K ((v_trial_8 (Int32.toNatClampNeg (25 : Int32))) - (v_now (Int32.toNatClampNeg (25 : Int32)))) v_z_seed_7 v_trial_8 v_pulses_9) ne (0 : Int32) v_z_seed v_trial_2 v_pulses)))) ∧ (r1 = (0 : Int32) → K (-2 : Int32) v_z_seed v_trial v_pulses))))
set_option maxHeartbeats 4000000 in
set_option maxRecDepth 100000 in
theorem l_X8_drawn_28 {Γ : g_C} (X : g_X Γ (g_Rm 3 69) cX8_drawn RX8 4) (h0 : Nat) (h1 : Nat) (h2 : Nat) (h3 : Nat) (o0 o1 o2 o3 o4 o5 o6 o7 o8 o9 o10 o11 o12 o13 o14 o15 o16 o17 o18 o19 o20 o21 o22 o23 : Value) (v_z_dots : Int32) (v_z_cool : Int32) (v_z_low : Int32) (v_z_high : Int32) (v_z_ghost : Int32) (v_z_dead : Int32) (v_now : Nat → Int32) (x1 : Int32) {C82 : Int64 → (Nat → Int32) → (Nat → Int32) → Prop} (hC82 : ∀ (v_z_seed : Int64) (v_trial : Nat → Int32) (v_pulses : Nat → Int32), C82 v_z_seed v_trial v_pulses → g_G Γ (g_Rm 3 69) 4 82 [(0, .ref h0)] [] (W_X8_drawn (g_env Γ) h0 h1 h2 h3 o0 o1 o2 o3 o4 o5 o6 o7 o8 o9 o10 o11 o12 o13 o14 o15 o16 o17 o18 o19 o20 o21 o22 o23 v_z_dots v_z_cool v_z_low v_z_high v_z_ghost v_z_seed v_z_dead v_now v_trial v_pulses)) : ∀ (n : Nat) (x2 : Int32) (v_z_seed : Int64) (v_trial : Nat → Int32) (v_pulses : Nat → Int32), P_X8_drawn_L28 v_z_dots v_z_cool v_z_low v_z_high v_z_ghost v_z_dead x1 C82 n x2 v_z_seed v_trial v_pulses → g_G Γ (g_Rm 3 69) 4 28 [(0, .ref h0), (1, .int x1), (2, .int x2)] [] (W_X8_drawn (g_env Γ) h0 h1 h2 h3 o0 o1 o2 o3 o4 o5 o6 o7 o8 o9 o10 o11 o12 o13 o14 o15 o16 o17 o18 o19 o20 o21 o22 o23 v_z_dots v_z_cool v_z_low v_z_high v_z_ghost v_z_seed v_z_dead v_now v_trial v_pulses) := by
  intro n
  induction n with
  | zero => intro x2 v_z_seed v_trial v_pulses h; exact False.elim h
  | succ n ih =>
    intro x2 v_z_seed v_trial v_pulses h
    unfold P_X8_drawn_L28 at h
    refine g_iload_n 28 X dX8_drawn_28 2 rfl rfl ?_
    refine g_iload_n 29 X dX8_drawn_29 1 rfl rfl ?_
    refine g_icmp_ge 30 X 82 dX8_drawn_30 (by decide) (fun c => ?_) (fun c => ?_)
    · replace h := h.1 c
      refine g_sub [(0, .ref h0)] [0] rfl ?_
      exact hC82 v_z_seed v_trial v_pulses h
    · replace h := h.2 c
      refine g_aload_n 33 X dX8_drawn_33 0 rfl rfl ?_
      refine g_aload_n 34 X dX8_drawn_34 0 rfl rfl ?_
      refine g_get 35 X fa_X8_253 dX8_drawn_35 0 rfl rfl ?_
      refine g_ldc2 38 X dX8_drawn_38 kc_X8_259 ?_
      refine g_lmul 41 X dX8_drawn_41 ?_
      refine g_ldc2 42 X dX8_drawn_42 kc_X8_261 ?_
      refine g_ladd 45 X dX8_drawn_45 ?_
      refine g_put 46 X (W_X8_drawn (g_env Γ) h0 h1 h2 h3 o0 o1 o2 o3 o4 o5 o6 o7 o8 o9 o10 o11 o12 o13 o14 o15 o16 o17 o18 o19 o20 o21 o22 o23 v_z_dots v_z_cool v_z_low v_z_high v_z_ghost ((v_z_seed * (6364136223846793005 : Int64)) + (1442695040888963407 : Int64)) v_z_dead v_now v_trial v_pulses) fa_X8_253 pa_8_19 dX8_drawn_46 0 rfl rfl rfl (Nat.le_of_ble_eq_true rfl) rfl ?_
      refine g_aload_n 49 X dX8_drawn_49 0 rfl rfl ?_
      refine g_get 50 X fa_X8_253 dX8_drawn_50 0 rfl rfl ?_
      refine g_bipush 53 X (33 : Int32) dX8_drawn_53 k_bp_33 ?_
      refine g_lushr 55 X dX8_drawn_55 ?_
      refine g_l2i 56 X dX8_drawn_56 ?_
      refine g_istore_n 57 X [(3, .int (Int64.toInt32 ((Int64.toUInt64 ((v_z_seed * (6364136223846793005 : Int64)) + (1442695040888963407 : Int64)) >>> ((Int32.toInt64 (33 : Int32)).toUInt64 &&& Int64.toUInt64 63)).toInt64))), (0, .ref h0), (1, .int x1), (2, .int x2)] dX8_drawn_57 rfl (Nat.le_of_ble_eq_true rfl) rfl ?_
      refine g_aload_n 58 X dX8_drawn_58 1 rfl rfl ?_
      refine g_aload_n 59 X dX8_drawn_59 1 rfl rfl ?_
      refine g_get 60 X fa_X8_16 dX8_drawn_60 0 rfl rfl ?_
      refine g_iload_n 63 X dX8_drawn_63 0 rfl rfl ?_
      refine g_iconst 64 X (1 : Int32) dX8_drawn_64 k_ic_1 ?_
      refine g_aload_n 65 X dX8_drawn_65 1 rfl rfl ?_
      refine g_get 66 X fa_X8_59 dX8_drawn_66 0 rfl rfl ?_
      refine g_ishl 69 X dX8_drawn_69 ?_
      refine g_iconst 70 X (1 : Int32) dX8_drawn_70 k_ic_1 ?_
      refine g_isub 71 X dX8_drawn_71 ?_
      refine g_iand 72 X dX8_drawn_72 ?_
      refine g_cVV 73 X (st := []) mv_X8_152 dX8_drawn_73 h0 8 [.ref h2, .int ((Int64.toInt32 ((Int64.toUInt64 ((v_z_seed * (6364136223846793005 : Int64)) + (1442695040888963407 : Int64)) >>> ((Int32.toInt64 (33 : Int32)).toUInt64 &&& Int64.toUInt64 63)).toInt64)) &&& (((1 : Int32) <<< (v_z_dots &&& (31 : Int32))) - (1 : Int32)))] (c_X8_printOn h0 h3 h2 o0 o1 o2 (.ref h1) (.ref h2) o3 o4 o5 o6 o7 o8 o9 o10 o11 (.long ((v_z_seed * (6364136223846793005 : Int64)) + (1442695040888963407 : Int64))) o12 o13 o14 o15 o16 o17 o18 o19 o20 o21 o22 o23 v_z_dots v_z_cool v_z_low v_z_high v_z_ghost v_z_dead v_pulses v_trial ((Int64.toInt32 ((Int64.toUInt64 ((v_z_seed * (6364136223846793005 : Int64)) + (1442695040888963407 : Int64)) >>> ((Int32.toInt64 (33 : Int32)).toUInt64 &&& Int64.toUInt64 63)).toInt64)) &&& (((1 : Int32) <<< (v_z_dots &&& (31 : Int32))) - (1 : Int32))) h) [0, 3, 2] (fun u : (Nat → Int32) × (Nat → Int32) => (W_X8_drawn (g_env Γ) h0 h1 h2 h3 o0 o1 o2 o3 o4 o5 o6 o7 o8 o9 o10 o11 o12 o13 o14 o15 o16 o17 o18 o19 o20 o21 o22 o23 v_z_dots v_z_cool v_z_low v_z_high v_z_ghost ((v_z_seed * (6364136223846793005 : Int64)) + (1442695040888963407 : Int64)) v_z_dead v_now u.2 u.1)) rfl ⟨(Nat.le_of_ble_eq_true rfl), (Nat.le_of_ble_eq_true rfl)⟩ ⟨rfl, rfl⟩ (Nat.le_of_ble_eq_true rfl) rfl rfl rfl (by decide) (fun _ => rfl) (fun _ => rfl) (fun u h => ?_)
      obtain ⟨v_pulses_5, v_trial_6⟩ := u
      dsimp only at h ⊢
      refine g_iinc 76 X (x2 + (1 : Int32)) [(2, .int (x2 + (1 : Int32))), (3, .int (Int64.toInt32 ((Int64.toUInt64 ((v_z_seed * (6364136223846793005 : Int64)) + (1442695040888963407 : Int64)) >>> ((Int32.toInt64 (33 : Int32)).toUInt64 &&& Int64.toUInt64 63)).toInt64))), (0, .ref h0), (1, .int x1)] dX8_drawn_76 3 rfl (k_ii_1 _) (Nat.le_of_ble_eq_true rfl) rfl ?_
      refine g_goto 79 X 28 dX8_drawn_79 (by decide) ?_
      refine g_sub [(0, .ref h0), (1, .int x1), (2, .int (x2 + (1 : Int32)))] [2, 3, 0] rfl ?_
      exact ih (x2 + (1 : Int32)) ((v_z_seed * (6364136223846793005 : Int64)) + (1442695040888963407 : Int64)) v_trial_6 v_pulses_5 h
set_option maxHeartbeats 4000000 in
set_option maxRecDepth 100000 in
theorem c_X8_drawn {l : Launch} {E : g_E} (h0 : Nat) (h1 : Nat) (h2 : Nat) (h3 : Nat) (o0 o1 o2 o3 o4 o5 o6 o7 o8 o9 o10 o11 o12 o13 o14 o15 o16 o17 o18 o19 o20 o21 o22 o23 : Value) (v_z_dots : Int32) (v_z_cool : Int32) (v_z_low : Int32) (v_z_high : Int32) (v_z_ghost : Int32) (v_z_seed : Int64) (v_z_dead : Int32) (v_now : Nat → Int32) (v_trial : Nat → Int32) (v_pulses : Nat → Int32) (b1 : Int32) {K : Int32 → Int64 → (Nat → Int32) → (Nat → Int32) → Prop} (h : P_X8_drawn b1 v_z_dots v_z_cool v_z_low v_z_high v_z_ghost v_z_seed v_z_dead v_now v_trial v_pulses K) : g_CI l E yX8_drawn cX8_drawn 4 .int (g_Rm 3 69) [.ref h0, .int b1] (W_X8_drawn E h0 h1 h2 h3 o0 o1 o2 o3 o4 o5 o6 o7 o8 o9 o10 o11 o12 o13 o14 o15 o16 o17 o18 o19 o20 o21 o22 o23 v_z_dots v_z_cool v_z_low v_z_high v_z_ghost v_z_seed v_z_dead v_now v_trial v_pulses) (fun r (u : Int64 × (Nat → Int32) × (Nat → Int32)) => K r u.1 u.2.1 u.2.2) (fun (u : Int64 × (Nat → Int32) × (Nat → Int32)) => (W_X8_drawn E h0 h1 h2 h3 o0 o1 o2 o3 o4 o5 o6 o7 o8 o9 o10 o11 o12 o13 o14 o15 o16 o17 o18 o19 o20 o21 o22 o23 v_z_dots v_z_cool v_z_low v_z_high v_z_ghost u.1 v_z_dead v_now u.2.1 u.2.2)) := by
  refine g_entI RX8 (by decide) rfl (Nat.le_of_ble_eq_true rfl) ?_
  intro Γ X hE hl ret
  subst hE
  subst hl
  unfold P_X8_drawn at h
  show g_G Γ (g_Rm 3 69) 4 0 [(0, .ref h0), (1, .int b1)] [] (W_X8_drawn (g_env Γ) h0 h1 h2 h3 o0 o1 o2 o3 o4 o5 o6 o7 o8 o9 o10 o11 o12 o13 o14 o15 o16 o17 o18 o19 o20 o21 o22 o23 v_z_dots v_z_cool v_z_low v_z_high v_z_ghost v_z_seed v_z_dead v_now v_trial v_pulses)
  refine g_iload_n 0 X dX8_drawn_0 1 rfl rfl ?_
  refine g_i2l 1 X dX8_drawn_1 ?_
  refine g_lconst 2 X (1 : Int64) dX8_drawn_2 k_lc_1 ?_
  refine g_ldc2 3 X dX8_drawn_3 kc_X8_257 ?_
  refine g_cSI 6 X (st := []) mv_X8_69 dX8_drawn_6 [.long (Int32.toInt64 b1), .long (1 : Int64), .long (20 : Int64)] (c_X8_in (Int32.toInt64 b1) (1 : Int64) (20 : Int64) h) [] (fun u : Unit => (W_X8_drawn (g_env Γ) h0 h1 h2 h3 o0 o1 o2 o3 o4 o5 o6 o7 o8 o9 o10 o11 o12 o13 o14 o15 o16 o17 o18 o19 o20 o21 o22 o23 v_z_dots v_z_cool v_z_low v_z_high v_z_ghost v_z_seed v_z_dead v_now v_trial v_pulses)) rfl ⟨(Nat.le_of_ble_eq_true rfl), (Nat.le_of_ble_eq_true rfl)⟩ ⟨rfl, rfl⟩ (Nat.le_of_ble_eq_true rfl) rfl (by decide) (fun _ => rfl) (fun _ => rfl) (fun r1 u h => ?_)
  refine g_if_ne 9 X 15 dX8_drawn_9 (by decide) (fun c => ?_) (fun c => ?_)
  · replace h := h.1 c
    refine g_aload_n 15 X dX8_drawn_15 0 rfl rfl ?_
    refine g_get 16 X fa_X8_13 dX8_drawn_16 0 rfl rfl ?_
    refine g_aload_n 19 X dX8_drawn_19 0 rfl rfl ?_
    refine g_get 20 X fa_X8_16 dX8_drawn_20 0 rfl rfl ?_
    refine g_cSV 23 X (st := []) mv_X8_168 dX8_drawn_23 [.ref h1, .ref h2] (c_X8_copy h1 h2 v_now v_trial h) [1, 2] (fun u : (Nat → Int32) => (W_X8_drawn (g_env Γ) h0 h1 h2 h3 o0 o1 o2 o3 o4 o5 o6 o7 o8 o9 o10 o11 o12 o13 o14 o15 o16 o17 o18 o19 o20 o21 o22 o23 v_z_dots v_z_cool v_z_low v_z_high v_z_ghost v_z_seed v_z_dead v_now u v_pulses)) rfl ⟨(Nat.le_of_ble_eq_true rfl), (Nat.le_of_ble_eq_true rfl)⟩ ⟨rfl, rfl⟩ (Nat.le_of_ble_eq_true rfl) rfl (by decide) (fun _ => rfl) (fun _ => rfl) (fun u h => ?_)
    obtain ⟨v_trial_2, rfl⟩ : ∃ z, z = u := ⟨_, rfl⟩
    refine g_iconst 26 X (0 : Int32) dX8_drawn_26 k_ic_0 ?_
    refine g_istore_n 27 X [(2, .int (0 : Int32)), (0, .ref h0), (1, .int b1)] dX8_drawn_27 rfl (Nat.le_of_ble_eq_true rfl) rfl ?_
    obtain ⟨n10, h⟩ := h
    refine g_sub [(0, .ref h0), (1, .int b1), (2, .int (0 : Int32))] [1, 2, 0] rfl ?_
    refine l_X8_drawn_28 X h0 h1 h2 h3 o0 o1 o2 o3 o4 o5 o6 o7 o8 o9 o10 o11 o12 o13 o14 o15 o16 o17 o18 o19 o20 o21 o22 o23 v_z_dots v_z_cool v_z_low v_z_high v_z_ghost v_z_dead v_now b1 (fun v_z_seed_7 v_trial_8 v_pulses_9 h => ?_) n10 (0 : Int32) v_z_seed v_trial_2 v_pulses h
    · refine g_aload_n 82 X dX8_drawn_82 0 rfl rfl ?_
      refine g_get 83 X fa_X8_16 dX8_drawn_83 0 rfl rfl ?_
      refine g_bipush 86 X (25 : Int32) dX8_drawn_86 k_bp_25 ?_
      refine g_iald 88 X dX8_drawn_88 2 rfl rfl (vp_lit (by decide)) ?_
      refine g_aload_n 89 X dX8_drawn_89 0 rfl rfl ?_
      refine g_get 90 X fa_X8_13 dX8_drawn_90 0 rfl rfl ?_
      refine g_bipush 93 X (25 : Int32) dX8_drawn_93 k_bp_25 ?_
      refine g_iald 95 X dX8_drawn_95 1 rfl rfl (vp_lit (by decide)) ?_
      refine g_isub 96 X dX8_drawn_96 ?_
      exact ret 97 _ _ (v_z_seed_7, v_trial_8, v_pulses_9) dX8_drawn_97 (vp_nar_int _) h
  · replace h := h.2 c
    refine g_bipush 12 X (-2 : Int32) dX8_drawn_12 k_bp_m2 ?_
    exact ret 14 _ _ (v_z_seed, v_trial, v_pulses) dX8_drawn_14 (vp_nar_int _) h

def W_X8_keep (E : g_E) (h0 : Nat) (h1 : Nat) (h2 : Nat) (h3 : Nat) (o0 o1 o2 o3 o4 o5 o6 o7 o8 o9 o10 o11 o12 o13 o14 o15 o16 o17 o18 o19 o20 o21 o22 o23 o24 o25 o26 o27 o28 o29 o30 : Value) (v_now : Nat → Int32) (v_kept : Nat → Int32) (v_isKept : Nat → Int32) : va_W := [(h0, .inr (8, [o0, o1, o2, o3, o4, o5, o6, o7, .ref h1, o8, o9, o10, o11, .ref h2, .ref h3, o12, o13, o14, o15, o16, o17, o18, o19, o20, o21, o22, o23, o24, o25, o26, o27, o28, o29, o30])), (h1, .inl (E.2.1, 30, .inl v_now)), (h2, .inl (E.2.1, 60, .inl v_kept)), (h3, .inl (E.2.2.1, 2, .inl v_isKept))]
def P_X8_keep_L21 (v_now : Nat → Int32) (x1 : Int32) (C50 : (Nat → Int32) → Prop) : Nat → Int32 → (Nat → Int32) → Prop
  | 0, _, _ => False
  | n + 1, x2, v_kept => (((30 : Int32) ≤ x2 → C50 v_kept) ∧ (¬ (30 : Int32) ≤ x2 → (vp_in x2 30 ∧ (vp_in (((30 : Int32) * x1) + x2) 60 ∧ P_X8_keep_L21 v_now x1 C50 n (x2 + (1 : Int32)) (upd v_kept (Int32.toNatClampNeg (((30 : Int32) * x1) + x2)) (v_now (Int32.toNatClampNeg x2)))))))
def P_X8_keep (b1 : Int32) (v_now : Nat → Int32) (v_kept : Nat → Int32) (v_isKept : Nat → Int32) (K : Int32 → (Nat → Int32) → (Nat → Int32) → Prop) : Prop := (P_X8_in (Int32.toInt64 b1) (0 : Int64) (1 : Int64) (fun r1 => ((¬ r1 = (0 : Int32) → (vp_in b1 2 ∧ (∃ ne : Nat, P_X8_keep_L21 v_now b1 (fun v_kept_7 => K (v_now (Int32.toNatClampNeg (29 : Int32))) v_kept_7 (upd v_isKept (Int32.toNatClampNeg b1) (vp_nar .boolean (1 : Int32)))) ne (0 : Int32) v_kept))) ∧ (r1 = (0 : Int32) → K (-1 : Int32) v_kept v_isKept))))
set_option maxHeartbeats 4000000 in
set_option maxRecDepth 100000 in
theorem l_X8_keep_21 {Γ : g_C} (X : g_X Γ (g_Rm 1 25) cX8_keep RX8 3) (h0 : Nat) (h1 : Nat) (h2 : Nat) (h3 : Nat) (o0 o1 o2 o3 o4 o5 o6 o7 o8 o9 o10 o11 o12 o13 o14 o15 o16 o17 o18 o19 o20 o21 o22 o23 o24 o25 o26 o27 o28 o29 o30 : Value) (v_now : Nat → Int32) (v_isKept : Nat → Int32) (x1 : Int32) {C50 : (Nat → Int32) → Prop} (hC50 : ∀ (v_kept : Nat → Int32), C50 v_kept → g_G Γ (g_Rm 1 25) 3 50 [(0, .ref h0)] [] (W_X8_keep (g_env Γ) h0 h1 h2 h3 o0 o1 o2 o3 o4 o5 o6 o7 o8 o9 o10 o11 o12 o13 o14 o15 o16 o17 o18 o19 o20 o21 o22 o23 o24 o25 o26 o27 o28 o29 o30 v_now v_kept v_isKept)) : ∀ (n : Nat) (x2 : Int32) (v_kept : Nat → Int32), P_X8_keep_L21 v_now x1 C50 n x2 v_kept → g_G Γ (g_Rm 1 25) 3 21 [(0, .ref h0), (1, .int x1), (2, .int x2)] [] (W_X8_keep (g_env Γ) h0 h1 h2 h3 o0 o1 o2 o3 o4 o5 o6 o7 o8 o9 o10 o11 o12 o13 o14 o15 o16 o17 o18 o19 o20 o21 o22 o23 o24 o25 o26 o27 o28 o29 o30 v_now v_kept v_isKept) := by
  intro n
  induction n with
  | zero => intro x2 v_kept h; exact False.elim h
  | succ n ih =>
    intro x2 v_kept h
    unfold P_X8_keep_L21 at h
    refine g_iload_n 21 X dX8_keep_21 2 rfl rfl ?_
    refine g_bipush 22 X (30 : Int32) dX8_keep_22 k_bp_30 ?_
    refine g_icmp_ge 24 X 50 dX8_keep_24 (by decide) (fun c => ?_) (fun c => ?_)
    · replace h := h.1 c
      refine g_sub [(0, .ref h0)] [0] rfl ?_
      exact hC50 v_kept h
    · replace h := h.2 c
      refine g_aload_n 27 X dX8_keep_27 0 rfl rfl ?_
      refine g_get 28 X fa_X8_22 dX8_keep_28 0 rfl rfl ?_
      refine g_bipush 31 X (30 : Int32) dX8_keep_31 k_bp_30 ?_
      refine g_iload_n 33 X dX8_keep_33 1 rfl rfl ?_
      refine g_imul 34 X dX8_keep_34 ?_
      refine g_iload_n 35 X dX8_keep_35 2 rfl rfl ?_
      refine g_iadd 36 X dX8_keep_36 ?_
      refine g_aload_n 37 X dX8_keep_37 0 rfl rfl ?_
      refine g_get 38 X fa_X8_13 dX8_keep_38 0 rfl rfl ?_
      refine g_iload_n 41 X dX8_keep_41 2 rfl rfl ?_
      have f5 := h.1; replace h := h.2
      refine g_iald 42 X dX8_keep_42 1 rfl rfl f5 ?_
      have f6 := h.1; replace h := h.2
      refine g_iast 43 X (W_X8_keep (g_env Γ) h0 h1 h2 h3 o0 o1 o2 o3 o4 o5 o6 o7 o8 o9 o10 o11 o12 o13 o14 o15 o16 o17 o18 o19 o20 o21 o22 o23 o24 o25 o26 o27 o28 o29 o30 v_now (upd v_kept (Int32.toNatClampNeg (((30 : Int32) * x1) + x2)) (v_now (Int32.toNatClampNeg x2))) v_isKept) dX8_keep_43 2 rfl rfl f6 rfl ?_
      refine g_iinc 44 X (x2 + (1 : Int32)) [(2, .int (x2 + (1 : Int32))), (0, .ref h0), (1, .int x1)] dX8_keep_44 2 rfl (k_ii_1 _) (Nat.le_of_ble_eq_true rfl) rfl ?_
      refine g_goto 47 X 21 dX8_keep_47 (by decide) ?_
      refine g_sub [(0, .ref h0), (1, .int x1), (2, .int (x2 + (1 : Int32)))] [1, 2, 0] rfl ?_
      exact ih (x2 + (1 : Int32)) (upd v_kept (Int32.toNatClampNeg (((30 : Int32) * x1) + x2)) (v_now (Int32.toNatClampNeg x2))) h
set_option maxHeartbeats 4000000 in
set_option maxRecDepth 100000 in
theorem c_X8_keep {l : Launch} {E : g_E} (h0 : Nat) (h1 : Nat) (h2 : Nat) (h3 : Nat) (o0 o1 o2 o3 o4 o5 o6 o7 o8 o9 o10 o11 o12 o13 o14 o15 o16 o17 o18 o19 o20 o21 o22 o23 o24 o25 o26 o27 o28 o29 o30 : Value) (v_now : Nat → Int32) (v_kept : Nat → Int32) (v_isKept : Nat → Int32) (b1 : Int32) {K : Int32 → (Nat → Int32) → (Nat → Int32) → Prop} (h : P_X8_keep b1 v_now v_kept v_isKept K) : g_CI l E yX8_keep cX8_keep 3 .int (g_Rm 1 25) [.ref h0, .int b1] (W_X8_keep E h0 h1 h2 h3 o0 o1 o2 o3 o4 o5 o6 o7 o8 o9 o10 o11 o12 o13 o14 o15 o16 o17 o18 o19 o20 o21 o22 o23 o24 o25 o26 o27 o28 o29 o30 v_now v_kept v_isKept) (fun r (u : (Nat → Int32) × (Nat → Int32)) => K r u.1 u.2) (fun (u : (Nat → Int32) × (Nat → Int32)) => (W_X8_keep E h0 h1 h2 h3 o0 o1 o2 o3 o4 o5 o6 o7 o8 o9 o10 o11 o12 o13 o14 o15 o16 o17 o18 o19 o20 o21 o22 o23 o24 o25 o26 o27 o28 o29 o30 v_now u.1 u.2)) := by
  refine g_entI RX8 (by decide) rfl (Nat.le_of_ble_eq_true rfl) ?_
  intro Γ X hE hl ret
  subst hE
  subst hl
  unfold P_X8_keep at h
  show g_G Γ (g_Rm 1 25) 3 0 [(0, .ref h0), (1, .int b1)] [] (W_X8_keep (g_env Γ) h0 h1 h2 h3 o0 o1 o2 o3 o4 o5 o6 o7 o8 o9 o10 o11 o12 o13 o14 o15 o16 o17 o18 o19 o20 o21 o22 o23 o24 o25 o26 o27 o28 o29 o30 v_now v_kept v_isKept)
  refine g_iload_n 0 X dX8_keep_0 1 rfl rfl ?_
  refine g_i2l 1 X dX8_keep_1 ?_
  refine g_lconst 2 X (0 : Int64) dX8_keep_2 k_lc_0 ?_
  refine g_lconst 3 X (1 : Int64) dX8_keep_3 k_lc_1 ?_
  refine g_cSI 4 X (st := []) mv_X8_69 dX8_keep_4 [.long (Int32.toInt64 b1), .long (0 : Int64), .long (1 : Int64)] (c_X8_in (Int32.toInt64 b1) (0 : Int64) (1 : Int64) h) [] (fun u : Unit => (W_X8_keep (g_env Γ) h0 h1 h2 h3 o0 o1 o2 o3 o4 o5 o6 o7 o8 o9 o10 o11 o12 o13 o14 o15 o16 o17 o18 o19 o20 o21 o22 o23 o24 o25 o26 o27 o28 o29 o30 v_now v_kept v_isKept)) rfl ⟨(Nat.le_of_ble_eq_true rfl), (Nat.le_of_ble_eq_true rfl)⟩ ⟨rfl, rfl⟩ (Nat.le_of_ble_eq_true rfl) rfl (by decide) (fun _ => rfl) (fun _ => rfl) (fun r1 u h => ?_)
  refine g_if_ne 7 X 12 dX8_keep_7 (by decide) (fun c => ?_) (fun c => ?_)
  · replace h := h.1 c
    refine g_aload_n 12 X dX8_keep_12 0 rfl rfl ?_
    refine g_get 13 X fa_X8_25 dX8_keep_13 0 rfl rfl ?_
    refine g_iload_n 16 X dX8_keep_16 1 rfl rfl ?_
    refine g_iconst 17 X (1 : Int32) dX8_keep_17 k_ic_1 ?_
    have f2 := h.1; replace h := h.2
    refine g_zast 18 X (W_X8_keep (g_env Γ) h0 h1 h2 h3 o0 o1 o2 o3 o4 o5 o6 o7 o8 o9 o10 o11 o12 o13 o14 o15 o16 o17 o18 o19 o20 o21 o22 o23 o24 o25 o26 o27 o28 o29 o30 v_now v_kept (upd v_isKept (Int32.toNatClampNeg b1) (vp_nar .boolean (1 : Int32)))) dX8_keep_18 3 rfl rfl f2 rfl ?_
    refine g_iconst 19 X (0 : Int32) dX8_keep_19 k_ic_0 ?_
    refine g_istore_n 20 X [(2, .int (0 : Int32)), (0, .ref h0), (1, .int b1)] dX8_keep_20 rfl (Nat.le_of_ble_eq_true rfl) rfl ?_
    obtain ⟨n8, h⟩ := h
    refine g_sub [(0, .ref h0), (1, .int b1), (2, .int (0 : Int32))] [1, 2, 0] rfl ?_
    refine l_X8_keep_21 X h0 h1 h2 h3 o0 o1 o2 o3 o4 o5 o6 o7 o8 o9 o10 o11 o12 o13 o14 o15 o16 o17 o18 o19 o20 o21 o22 o23 o24 o25 o26 o27 o28 o29 o30 v_now (upd v_isKept (Int32.toNatClampNeg b1) (vp_nar .boolean (1 : Int32))) b1 (fun v_kept_7 h => ?_) n8 (0 : Int32) v_kept h
    · refine g_aload_n 50 X dX8_keep_50 0 rfl rfl ?_
      refine g_get 51 X fa_X8_13 dX8_keep_51 0 rfl rfl ?_
      refine g_bipush 54 X (29 : Int32) dX8_keep_54 k_bp_29 ?_
      refine g_iald 56 X dX8_keep_56 1 rfl rfl (vp_lit (by decide)) ?_
      exact ret 57 _ _ (v_kept_7, (upd v_isKept (Int32.toNatClampNeg b1) (vp_nar .boolean (1 : Int32)))) dX8_keep_57 (vp_nar_int _) h
  · replace h := h.2 c
    refine g_iconst 10 X (-1 : Int32) dX8_keep_10 k_ic_m1 ?_
    exact ret 11 _ _ (v_kept, v_isKept) dX8_keep_11 (vp_nar_int _) h

def W_X8_again (E : g_E) (h0 : Nat) (h1 : Nat) (h2 : Nat) (h3 : Nat) (o0 o1 o2 o3 o4 o5 o6 o7 o8 o9 o10 o11 o12 o13 o14 o15 o16 o17 o18 o19 o20 o21 o22 o23 o24 o25 o26 o27 o28 o29 : Value) (v_z_acts : Int32) (v_now : Nat → Int32) (v_kept : Nat → Int32) (v_isKept : Nat → Int32) : va_W := [(h0, .inr (8, [o0, o1, o2, o3, o4, o5, o6, o7, .ref h1, o8, o9, .int v_z_acts, o10, .ref h2, .ref h3, o11, o12, o13, o14, o15, o16, o17, o18, o19, o20, o21, o22, o23, o24, o25, o26, o27, o28, o29])), (h1, .inl (E.2.1, 30, .inl v_now)), (h2, .inl (E.2.1, 60, .inl v_kept)), (h3, .inl (E.2.2.1, 2, .inl v_isKept))]
def P_X8_again_L26 (v_kept : Nat → Int32) (x1 : Int32) (C55 : (Nat → Int32) → Prop) : Nat → Int32 → (Nat → Int32) → Prop
  | 0, _, _ => False
  | n + 1, x2, v_now => (((30 : Int32) ≤ x2 → C55 v_now) ∧ (¬ (30 : Int32) ≤ x2 → (vp_in (((30 : Int32) * x1) + x2) 60 ∧ (vp_in x2 30 ∧ P_X8_again_L26 v_kept x1 C55 n (x2 + (1 : Int32)) (upd v_now (Int32.toNatClampNeg x2) (v_kept (Int32.toNatClampNeg (((30 : Int32) * x1) + x2))))))))
def P_X8_again (b1 : Int32) (v_z_acts : Int32) (v_now : Nat → Int32) (v_kept : Nat → Int32) (v_isKept : Nat → Int32) (K : Int32 → Int32 → (Nat → Int32) → Prop) : Prop := (P_X8_in (Int32.toInt64 b1) (0 : Int64) (1 : Int64) (fun r1 => ((¬ r1 = (0 : Int32) → (vp_in b1 2 ∧ ((¬ (v_isKept (Int32.toNatClampNeg b1)) = (0 : Int32) → (∃ ne : Nat, P_X8_again_L26 v_kept b1 (fun v_now_7 => K (v_now_7 (Int32.toNatClampNeg (29 : Int32))) (0 : Int32) v_now_7) ne (0 : Int32) v_now)) ∧ ((v_isKept (Int32.toNatClampNeg b1)) = (0 : Int32) → K (-3 : Int32) v_z_acts v_now)))) ∧ (r1 = (0 : Int32) → K (-1 : Int32) v_z_acts v_now))))
set_option maxHeartbeats 4000000 in
set_option maxRecDepth 100000 in
theorem l_X8_again_26 {Γ : g_C} (X : g_X Γ (g_Rm 1 25) cX8_again RX8 3) (h0 : Nat) (h1 : Nat) (h2 : Nat) (h3 : Nat) (o0 o1 o2 o3 o4 o5 o6 o7 o8 o9 o10 o11 o12 o13 o14 o15 o16 o17 o18 o19 o20 o21 o22 o23 o24 o25 o26 o27 o28 o29 : Value) (v_z_acts : Int32) (v_kept : Nat → Int32) (v_isKept : Nat → Int32) (x1 : Int32) {C55 : (Nat → Int32) → Prop} (hC55 : ∀ (v_now : Nat → Int32), C55 v_now → g_G Γ (g_Rm 1 25) 3 55 [(0, .ref h0)] [] (W_X8_again (g_env Γ) h0 h1 h2 h3 o0 o1 o2 o3 o4 o5 o6 o7 o8 o9 o10 o11 o12 o13 o14 o15 o16 o17 o18 o19 o20 o21 o22 o23 o24 o25 o26 o27 o28 o29 v_z_acts v_now v_kept v_isKept)) : ∀ (n : Nat) (x2 : Int32) (v_now : Nat → Int32), P_X8_again_L26 v_kept x1 C55 n x2 v_now → g_G Γ (g_Rm 1 25) 3 26 [(0, .ref h0), (1, .int x1), (2, .int x2)] [] (W_X8_again (g_env Γ) h0 h1 h2 h3 o0 o1 o2 o3 o4 o5 o6 o7 o8 o9 o10 o11 o12 o13 o14 o15 o16 o17 o18 o19 o20 o21 o22 o23 o24 o25 o26 o27 o28 o29 v_z_acts v_now v_kept v_isKept) := by
  intro n
  induction n with
  | zero => intro x2 v_now h; exact False.elim h
  | succ n ih =>
    intro x2 v_now h
    unfold P_X8_again_L26 at h
    refine g_iload_n 26 X dX8_again_26 2 rfl rfl ?_
    refine g_bipush 27 X (30 : Int32) dX8_again_27 k_bp_30 ?_
    refine g_icmp_ge 29 X 55 dX8_again_29 (by decide) (fun c => ?_) (fun c => ?_)
    · replace h := h.1 c
      refine g_sub [(0, .ref h0)] [0] rfl ?_
      exact hC55 v_now h
    · replace h := h.2 c
      refine g_aload_n 32 X dX8_again_32 0 rfl rfl ?_
      refine g_get 33 X fa_X8_13 dX8_again_33 0 rfl rfl ?_
      refine g_iload_n 36 X dX8_again_36 2 rfl rfl ?_
      refine g_aload_n 37 X dX8_again_37 0 rfl rfl ?_
      refine g_get 38 X fa_X8_22 dX8_again_38 0 rfl rfl ?_
      refine g_bipush 41 X (30 : Int32) dX8_again_41 k_bp_30 ?_
      refine g_iload_n 43 X dX8_again_43 1 rfl rfl ?_
      refine g_imul 44 X dX8_again_44 ?_
      refine g_iload_n 45 X dX8_again_45 2 rfl rfl ?_
      refine g_iadd 46 X dX8_again_46 ?_
      have f5 := h.1; replace h := h.2
      refine g_iald 47 X dX8_again_47 2 rfl rfl f5 ?_
      have f6 := h.1; replace h := h.2
      refine g_iast 48 X (W_X8_again (g_env Γ) h0 h1 h2 h3 o0 o1 o2 o3 o4 o5 o6 o7 o8 o9 o10 o11 o12 o13 o14 o15 o16 o17 o18 o19 o20 o21 o22 o23 o24 o25 o26 o27 o28 o29 v_z_acts (upd v_now (Int32.toNatClampNeg x2) (v_kept (Int32.toNatClampNeg (((30 : Int32) * x1) + x2)))) v_kept v_isKept) dX8_again_48 1 rfl rfl f6 rfl ?_
      refine g_iinc 49 X (x2 + (1 : Int32)) [(2, .int (x2 + (1 : Int32))), (0, .ref h0), (1, .int x1)] dX8_again_49 2 rfl (k_ii_1 _) (Nat.le_of_ble_eq_true rfl) rfl ?_
      refine g_goto 52 X 26 dX8_again_52 (by decide) ?_
      refine g_sub [(0, .ref h0), (1, .int x1), (2, .int (x2 + (1 : Int32)))] [1, 2, 0] rfl ?_
      exact ih (x2 + (1 : Int32)) (upd v_now (Int32.toNatClampNeg x2) (v_kept (Int32.toNatClampNeg (((30 : Int32) * x1) + x2)))) h
set_option maxHeartbeats 4000000 in
set_option maxRecDepth 100000 in
theorem c_X8_again {l : Launch} {E : g_E} (h0 : Nat) (h1 : Nat) (h2 : Nat) (h3 : Nat) (o0 o1 o2 o3 o4 o5 o6 o7 o8 o9 o10 o11 o12 o13 o14 o15 o16 o17 o18 o19 o20 o21 o22 o23 o24 o25 o26 o27 o28 o29 : Value) (v_z_acts : Int32) (v_now : Nat → Int32) (v_kept : Nat → Int32) (v_isKept : Nat → Int32) (b1 : Int32) {K : Int32 → Int32 → (Nat → Int32) → Prop} (h : P_X8_again b1 v_z_acts v_now v_kept v_isKept K) : g_CI l E yX8_again cX8_again 3 .int (g_Rm 1 25) [.ref h0, .int b1] (W_X8_again E h0 h1 h2 h3 o0 o1 o2 o3 o4 o5 o6 o7 o8 o9 o10 o11 o12 o13 o14 o15 o16 o17 o18 o19 o20 o21 o22 o23 o24 o25 o26 o27 o28 o29 v_z_acts v_now v_kept v_isKept) (fun r (u : Int32 × (Nat → Int32)) => K r u.1 u.2) (fun (u : Int32 × (Nat → Int32)) => (W_X8_again E h0 h1 h2 h3 o0 o1 o2 o3 o4 o5 o6 o7 o8 o9 o10 o11 o12 o13 o14 o15 o16 o17 o18 o19 o20 o21 o22 o23 o24 o25 o26 o27 o28 o29 u.1 u.2 v_kept v_isKept)) := by
  refine g_entI RX8 (by decide) rfl (Nat.le_of_ble_eq_true rfl) ?_
  intro Γ X hE hl ret
  subst hE
  subst hl
  unfold P_X8_again at h
  show g_G Γ (g_Rm 1 25) 3 0 [(0, .ref h0), (1, .int b1)] [] (W_X8_again (g_env Γ) h0 h1 h2 h3 o0 o1 o2 o3 o4 o5 o6 o7 o8 o9 o10 o11 o12 o13 o14 o15 o16 o17 o18 o19 o20 o21 o22 o23 o24 o25 o26 o27 o28 o29 v_z_acts v_now v_kept v_isKept)
  refine g_iload_n 0 X dX8_again_0 1 rfl rfl ?_
  refine g_i2l 1 X dX8_again_1 ?_
  refine g_lconst 2 X (0 : Int64) dX8_again_2 k_lc_0 ?_
  refine g_lconst 3 X (1 : Int64) dX8_again_3 k_lc_1 ?_
  refine g_cSI 4 X (st := []) mv_X8_69 dX8_again_4 [.long (Int32.toInt64 b1), .long (0 : Int64), .long (1 : Int64)] (c_X8_in (Int32.toInt64 b1) (0 : Int64) (1 : Int64) h) [] (fun u : Unit => (W_X8_again (g_env Γ) h0 h1 h2 h3 o0 o1 o2 o3 o4 o5 o6 o7 o8 o9 o10 o11 o12 o13 o14 o15 o16 o17 o18 o19 o20 o21 o22 o23 o24 o25 o26 o27 o28 o29 v_z_acts v_now v_kept v_isKept)) rfl ⟨(Nat.le_of_ble_eq_true rfl), (Nat.le_of_ble_eq_true rfl)⟩ ⟨rfl, rfl⟩ (Nat.le_of_ble_eq_true rfl) rfl (by decide) (fun _ => rfl) (fun _ => rfl) (fun r1 u h => ?_)
  refine g_if_ne 7 X 12 dX8_again_7 (by decide) (fun c => ?_) (fun c => ?_)
  · replace h := h.1 c
    refine g_aload_n 12 X dX8_again_12 0 rfl rfl ?_
    refine g_get 13 X fa_X8_25 dX8_again_13 0 rfl rfl ?_
    refine g_iload_n 16 X dX8_again_16 1 rfl rfl ?_
    have f2 := h.1; replace h := h.2
    refine g_zald 17 X dX8_again_17 3 rfl rfl f2 ?_
    refine g_if_ne 18 X 24 dX8_again_18 (by decide) (fun c => ?_) (fun c => ?_)
    · replace h := h.1 c
      refine g_iconst 24 X (0 : Int32) dX8_again_24 k_ic_0 ?_
      refine g_istore_n 25 X [(2, .int (0 : Int32)), (0, .ref h0), (1, .int b1)] dX8_again_25 rfl (Nat.le_of_ble_eq_true rfl) rfl ?_
      obtain ⟨n8, h⟩ := h
      refine g_sub [(0, .ref h0), (1, .int b1), (2, .int (0 : Int32))] [1, 2, 0] rfl ?_
      refine l_X8_again_26 X h0 h1 h2 h3 o0 o1 o2 o3 o4 o5 o6 o7 o8 o9 o10 o11 o12 o13 o14 o15 o16 o17 o18 o19 o20 o21 o22 o23 o24 o25 o26 o27 o28 o29 v_z_acts v_kept v_isKept b1 (fun v_now_7 h => ?_) n8 (0 : Int32) v_now h
      · refine g_aload_n 55 X dX8_again_55 0 rfl rfl ?_
        refine g_iconst 56 X (0 : Int32) dX8_again_56 k_ic_0 ?_
        refine g_put 57 X (W_X8_again (g_env Γ) h0 h1 h2 h3 o0 o1 o2 o3 o4 o5 o6 o7 o8 o9 o10 o11 o12 o13 o14 o15 o16 o17 o18 o19 o20 o21 o22 o23 o24 o25 o26 o27 o28 o29 (0 : Int32) v_now_7 v_kept v_isKept) fa_X8_120 pa_8_11 dX8_again_57 0 rfl rfl rfl (Nat.le_of_ble_eq_true rfl) rfl ?_
        refine g_aload_n 60 X dX8_again_60 0 rfl rfl ?_
        refine g_get 61 X fa_X8_13 dX8_again_61 0 rfl rfl ?_
        refine g_bipush 64 X (29 : Int32) dX8_again_64 k_bp_29 ?_
        refine g_iald 66 X dX8_again_66 1 rfl rfl (vp_lit (by decide)) ?_
        exact ret 67 _ _ ((0 : Int32), v_now_7) dX8_again_67 (vp_nar_int _) h
    · replace h := h.2 c
      refine g_bipush 21 X (-3 : Int32) dX8_again_21 k_bp_m3 ?_
      exact ret 23 _ _ (v_z_acts, v_now) dX8_again_23 (vp_nar_int _) h
  · replace h := h.2 c
    refine g_iconst 10 X (-1 : Int32) dX8_again_10 k_ic_m1 ?_
    exact ret 11 _ _ (v_z_acts, v_now) dX8_again_11 (vp_nar_int _) h
