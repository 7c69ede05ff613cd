/-! THE CLAIM OUT OF ONE WALK OF THE LAW'S BODY. Your part is whole_start (and what it stands on); all else here is the same for every law, but numbers. -/
def R_law : String := "HeatLinesLaw"
def lw_P (b : Addr) (xs : List Int32) (args : Array Value) (s : State) : Prop := args = #[.ref b] ∧ s.IntsAt b xs ∧ xs.length ≤ 2048 ∧ (Jvm.Cond.and given_1 narrow_1).before args s = true
def lw_Q (_ : Array Value) (s : State) (o : Outcome) (t : State) : Prop := o = .returned (some (.int 1)) ∧ Framed s o t [] 600000 7302250
def lw_Z (below : List Frame) (a : Array Value) (s : State) : State → Prop := fun t => ∃ o, t.status = .running ∧ Ended t below o ∧ lw_Q a s o t
/-- the law's own end, with 1 on the stack, nothing written that was there before, its room as the claim has it -/
theorem lw_ret {p : Program} {l : Launch} {e : Env} {s : State} {m : MethodId} {below : List Frame} {meth : Method} {c : Code} {b : Nat} (hx : p.tables.exec = Jvm.exec) (hb : c.code = code) (hr : meth.sig.returnType = ret) (hlocks : meth.locks = false) {pc : Nat} {H : Heap} {ls : Array Slot} (hdg : decode code pc = .ok (.ireturn, 1)) : W p l e room_1 s m #[Value.ref b] below meth c H [] 600000 7302250 (lw_Z below #[Value.ref b] s) (F0 m pc ls [.int 1]) := by
  intro T hT X
  obtain ⟨fs, hret, hrun, hended, hW, hframe⟩ := X.leave (v := some (.int 1)) (hlocks := hlocks) (fun h => by rw [hr] at h; cases h)
  have hmeth' : T.vm.method? m = some meth := X.method'
  refine ⟨T.setFrames fs, ?_, .returned (some (.int 1)), hrun, hended, rfl, ⟨_, rfl⟩, hW, hframe⟩
  jvm_step X.here [X.here.top, hx, hb, hdg, hmeth', hr, ret, narrow_b1]
  (try refine ⟨rfl, ?_⟩); (try refine ⟨rfl, ?_⟩)
  first | (intro acts; rw [hret _ acts rfl rfl rfl]) | rw [hret _ _ rfl rfl rfl]
  exact Steps.refl _
/-- what holds at the law's entry: the machine, the code, the tables' words (any of lw_tbl by 'hts w (by decide +kernel)'), the script of L ints xs at the cell b, what the Statement gives of the start (any of its parts by flat_of_before) -/
def lw_At (p : Program) (s : State) (m : MethodId) (meth : Method) (c : Code) (b L : Nat) (xs : Nat → Int32) : Prop :=
  p.tables.exec = Jvm.exec ∧ c.code = code ∧ meth.sig.returnType = ret ∧ c.maxLocals = 4 ∧ s.vm.findClass R_law = some m.cls ∧ (∀ w ∈ lw_tbl, w.before #[Value.ref b] s = true) ∧ va_X b L xs s s.heap ∧ b < s.heap.size ∧ meth.locks = false ∧ (Jvm.Cond.and given_1 narrow_1).before #[Value.ref b] s = true
theorem g_scr.at {Γ : g_C} {b L : Nat} {xs : Nat → Int32} {kc ks : Nat} (h : g_scr Γ b L xs) : g_scr (g_at Γ kc ks) b L xs := by
  obtain ⟨p, l, e, s, m, args, below, meth, c, E, A, k0, s0, Q⟩ := Γ
  exact h
set_option maxHeartbeats 8000000 in
set_option maxRecDepth 100000 in
theorem start_G {Γ : g_C} (X : g_X (g_at Γ 0 0) room_1 cL_law RL 4) {b L : Nat} {xs : Nat → Int32} (hL : L ≤ 2048) (hX : g_scr Γ b L xs) (hend : ∀ (kc ks : Nat) (ls : List (Nat × Value)) (ws : va_W), kc ≤ 600000 → ks ≤ 7302250 → g_X (g_at Γ kc ks) room_1 cL_law RL 4 → g_G (g_at Γ kc ks) room_1 4 879 ls [] ws) : g_G (g_at Γ 0 0) room_1 4 0 [(0, .ref b)] [] [] := by
  refine g_new 0 X na_L_7 1 10 rfl rfl (Nat.le_of_ble_eq_true rfl) (Nat.le_of_ble_eq_true rfl) dL_law_0 (fun q1 => ?_)
  have X : g_X (g_at Γ 1 10) _ _ _ _ := X.at (Nat.le_of_ble_eq_true rfl) (Nat.le_of_ble_eq_true rfl)
  show g_G _ _ _ _ _ _ ([(q1, .inr (7, [.null, .null, .null, .null, .null, .null, .null, .null, .null, .long 0]))])
  refine g_dup 3 X dL_law_3 rfl ?_
  refine g_cI 4 X (st := [.ref q1]) ci_L_9 dL_law_4 q1 (c_X7_init q1) [0] (fun u : Nat × Nat × Nat × Nat × Nat × Nat × Nat × Nat × Nat × Nat × Nat × Nat × Nat × Nat × Nat × Nat × Nat × Nat × Nat × Nat × Nat × (Nat → Nat → Nat) × Nat × Nat × Nat × Nat × Nat × Nat × (Nat → Nat → Nat) × Nat => ([(q1, .inr (7, [.ref u.1, .ref u.2.2.1, .ref u.2.2.2.2.1, .ref u.2.2.2.2.2.2.2.2.1, .ref u.2.2.2.2.2.2.2.2.2.2.2.2.1, .ref u.2.2.2.2.2.2.2.2.2.2.2.2.2.2.2.2.1, .ref u.2.2.2.2.2.2.2.2.2.2.2.2.2.2.2.2.2.2.2.1, .ref u.2.2.2.2.2.2.2.2.2.2.2.2.2.2.2.2.2.2.2.2.2.2.1, .ref u.2.2.2.2.2.2.2.2.2.2.2.2.2.2.2.2.2.2.2.2.2.2.2.2.2.2.1, .long 0])), (u.1, .inr (6, [.ref u.2.1, .int 0])), (u.2.1, .inl ((g_env Γ).2.1, 99, .inl (fun _ => 0))), (u.2.2.1, .inr (1, [.ref u.2.2.2.1, .int (1 : Int32), .int (1 : Int32), .int (1 : Int32), .int 0, .int 0, .int 0])), (u.2.2.2.1, .inl ((g_env Γ).2.1, 8, .inl (fun _ => 0))), (u.2.2.2.2.1, .inr (5, [.ref u.2.2.2.2.2.1, .ref u.2.2.2.2.2.2.1, .ref u.2.2.2.2.2.2.2.1, .int 0, .int 0, .int 0, .int 0, .int 0, .int 0, .int 0, .int 0, .int 0])), (u.2.2.2.2.2.1, .inl ((g_env Γ).2.1, 8, .inl (fun _ => 0))), (u.2.2.2.2.2.2.1, .inl ((g_env Γ).2.1, 5, .inl (fun _ => 0))), (u.2.2.2.2.2.2.2.1, .inl ((g_env Γ).2.1, 8, .inl (fun _ => 0))), (u.2.2.2.2.2.2.2.2.1, .inr (5, [.ref u.2.2.2.2.2.2.2.2.2.1, .ref u.2.2.2.2.2.2.2.2.2.2.1, .ref u.2.2.2.2.2.2.2.2.2.2.2.1, .int 0, .int 0, .int 0, .int 0, .int 0, .int 0, .int 0, .int 0, .int 0])), (u.2.2.2.2.2.2.2.2.2.1, .inl ((g_env Γ).2.1, 8, .inl (fun _ => 0))), (u.2.2.2.2.2.2.2.2.2.2.1, .inl ((g_env Γ).2.1, 5, .inl (fun _ => 0))), (u.2.2.2.2.2.2.2.2.2.2.2.1, .inl ((g_env Γ).2.1, 8, .inl (fun _ => 0))), (u.2.2.2.2.2.2.2.2.2.2.2.2.1, .inr (5, [.ref u.2.2.2.2.2.2.2.2.2.2.2.2.2.1, .ref u.2.2.2.2.2.2.2.2.2.2.2.2.2.2.1, .ref u.2.2.2.2.2.2.2.2.2.2.2.2.2.2.2.1, .int 0, .int 0, .int 0, .int 0, .int 0, .int 0, .int 0, .int 0, .int 0])), (u.2.2.2.2.2.2.2.2.2.2.2.2.2.1, .inl ((g_env Γ).2.1, 8, .inl (fun _ => 0))), (u.2.2.2.2.2.2.2.2.2.2.2.2.2.2.1, .inl ((g_env Γ).2.1, 5, .inl (fun _ => 0))), (u.2.2.2.2.2.2.2.2.2.2.2.2.2.2.2.1, .inl ((g_env Γ).2.1, 8, .inl (fun _ => 0))), (u.2.2.2.2.2.2.2.2.2.2.2.2.2.2.2.2.1, .inr (2, [.ref u.2.2.2.2.2.2.2.2.2.2.2.2.2.2.2.2.2.1, .ref u.2.2.2.2.2.2.2.2.2.2.2.2.2.2.2.2.2.2.1])), (u.2.2.2.2.2.2.2.2.2.2.2.2.2.2.2.2.2.1, .inl ((g_env Γ).2.1, 8, .inl (fun _ => 0))), (u.2.2.2.2.2.2.2.2.2.2.2.2.2.2.2.2.2.2.1, .inl ((g_env Γ).2.1, 8, .inl (fun _ => 0))), (u.2.2.2.2.2.2.2.2.2.2.2.2.2.2.2.2.2.2.2.1, .inr (0, [.ref u.2.2.2.2.2.2.2.2.2.2.2.2.2.2.2.2.2.2.2.2.1, .int 0, .int 0])), (u.2.2.2.2.2.2.2.2.2.2.2.2.2.2.2.2.2.2.2.2.1, .inl ((g_env Γ).2.2.2.1, 14, .inr (.inr (.inr (.inr (fun k => some (u.2.2.2.2.2.2.2.2.2.2.2.2.2.2.2.2.2.2.2.2.2.1 k 0)))))))] ++ g_pool (g_env Γ) u.2.2.2.2.2.2.2.2.2.2.2.2.2.2.2.2.2.2.2.2.2.1 (fun _ _ => 0) (fun _ _ => 0) (fun _ _ => 0) (fun _ _ => 0) 14 ++ [(u.2.2.2.2.2.2.2.2.2.2.2.2.2.2.2.2.2.2.2.2.2.2.1, .inr (3, [.ref u.2.2.2.2.2.2.2.2.2.2.2.2.2.2.2.2.2.2.2.2.2.2.2.1, .ref u.2.2.2.2.2.2.2.2.2.2.2.2.2.2.2.2.2.2.2.2.2.2.2.2.1, .ref u.2.2.2.2.2.2.2.2.2.2.2.2.2.2.2.2.2.2.2.2.2.2.2.2.2.1, .int 0])), (u.2.2.2.2.2.2.2.2.2.2.2.2.2.2.2.2.2.2.2.2.2.2.2.1, .inl ((g_env Γ).2.1, 6, .inl (fun _ => 0))), (u.2.2.2.2.2.2.2.2.2.2.2.2.2.2.2.2.2.2.2.2.2.2.2.2.1, .inl ((g_env Γ).2.1, 6, .inl (fun _ => 0))), (u.2.2.2.2.2.2.2.2.2.2.2.2.2.2.2.2.2.2.2.2.2.2.2.2.2.1, .inl ((g_env Γ).2.1, 6, .inl (fun _ => 0))), (u.2.2.2.2.2.2.2.2.2.2.2.2.2.2.2.2.2.2.2.2.2.2.2.2.2.2.1, .inr (4, [.ref u.2.2.2.2.2.2.2.2.2.2.2.2.2.2.2.2.2.2.2.2.2.2.2.2.2.2.2.1, .ref u.2.2.2.2.2.2.2.2.2.2.2.2.2.2.2.2.2.2.2.2.2.2.2.2.2.2.2.2.2])), (u.2.2.2.2.2.2.2.2.2.2.2.2.2.2.2.2.2.2.2.2.2.2.2.2.2.2.2.1, .inl ((g_env Γ).2.2.2.1, 2, .inr (.inr (.inr (.inr (fun k => some (u.2.2.2.2.2.2.2.2.2.2.2.2.2.2.2.2.2.2.2.2.2.2.2.2.2.2.2.2.1 k 0)))))))] ++ g_pool (g_env Γ) u.2.2.2.2.2.2.2.2.2.2.2.2.2.2.2.2.2.2.2.2.2.2.2.2.2.2.2.2.1 (fun _ _ => 0) (fun _ _ => 0) (fun _ _ => 0) (fun _ _ => 0) 2 ++ [(u.2.2.2.2.2.2.2.2.2.2.2.2.2.2.2.2.2.2.2.2.2.2.2.2.2.2.2.2.2, .inl ((g_env Γ).2.2.1, 2, .inl (fun _ => 0)))])) 93 816 rfl rfl (Nat.le_of_ble_eq_true rfl) (Nat.le_of_ble_eq_true rfl) ⟨(Nat.le_of_ble_eq_true rfl), (Nat.le_of_ble_eq_true rfl)⟩ (Nat.le_of_ble_eq_true rfl) rfl (by decide) (fun _ => rfl) (fun _ => rfl) (fun u _ => ?_)
  obtain ⟨q2, q3, q4, q5, q6, q7, q8, q9, q10, q11, q12, q13, q14, q15, q16, q17, q18, q19, q20, q21, q22, p23, q24, q25, q26, q27, q28, q29, p30, q31⟩ := u
  have X : g_X (g_at Γ 93 816) _ _ _ _ := X.at (Nat.le_of_ble_eq_true rfl) (Nat.le_of_ble_eq_true rfl)
  show g_G _ _ _ _ _ _ ([(q1, .inr (7, [.ref q2, .ref q4, .ref q6, .ref q10, .ref q14, .ref q18, .ref q21, .ref q24, .ref q28, .long 0])), (q2, .inr (6, [.ref q3, .int 0])), (q3, .inl ((g_env Γ).2.1, 99, .inl (fun _ => 0))), (q4, .inr (1, [.ref q5, .int (1 : Int32), .int (1 : Int32), .int (1 : Int32), .int 0, .int 0, .int 0])), (q5, .inl ((g_env Γ).2.1, 8, .inl (fun _ => 0))), (q6, .inr (5, [.ref q7, .ref q8, .ref q9, .int 0, .int 0, .int 0, .int 0, .int 0, .int 0, .int 0, .int 0, .int 0])), (q7, .inl ((g_env Γ).2.1, 8, .inl (fun _ => 0))), (q8, .inl ((g_env Γ).2.1, 5, .inl (fun _ => 0))), (q9, .inl ((g_env Γ).2.1, 8, .inl (fun _ => 0))), (q10, .inr (5, [.ref q11, .ref q12, .ref q13, .int 0, .int 0, .int 0, .int 0, .int 0, .int 0, .int 0, .int 0, .int 0])), (q11, .inl ((g_env Γ).2.1, 8, .inl (fun _ => 0))), (q12, .inl ((g_env Γ).2.1, 5, .inl (fun _ => 0))), (q13, .inl ((g_env Γ).2.1, 8, .inl (fun _ => 0))), (q14, .inr (5, [.ref q15, .ref q16, .ref q17, .int 0, .int 0, .int 0, .int 0, .int 0, .int 0, .int 0, .int 0, .int 0])), (q15, .inl ((g_env Γ).2.1, 8, .inl (fun _ => 0))), (q16, .inl ((g_env Γ).2.1, 5, .inl (fun _ => 0))), (q17, .inl ((g_env Γ).2.1, 8, .inl (fun _ => 0))), (q18, .inr (2, [.ref q19, .ref q20])), (q19, .inl ((g_env Γ).2.1, 8, .inl (fun _ => 0))), (q20, .inl ((g_env Γ).2.1, 8, .inl (fun _ => 0))), (q21, .inr (0, [.ref q22, .int 0, .int 0])), (q22, .inl ((g_env Γ).2.2.2.1, 14, .inr (.inr (.inr (.inr (fun k => some (p23 k 0)))))))] ++ g_pool (g_env Γ) p23 (fun _ _ => 0) (fun _ _ => 0) (fun _ _ => 0) (fun _ _ => 0) 14 ++ [(q24, .inr (3, [.ref q25, .ref q26, .ref q27, .int 0])), (q25, .inl ((g_env Γ).2.1, 6, .inl (fun _ => 0))), (q26, .inl ((g_env Γ).2.1, 6, .inl (fun _ => 0))), (q27, .inl ((g_env Γ).2.1, 6, .inl (fun _ => 0))), (q28, .inr (4, [.ref q29, .ref q31])), (q29, .inl ((g_env Γ).2.2.2.1, 2, .inr (.inr (.inr (.inr (fun k => some (p30 k 0)))))))] ++ g_pool (g_env Γ) p30 (fun _ _ => 0) (fun _ _ => 0) (fun _ _ => 0) (fun _ _ => 0) 2 ++ [(q31, .inl ((g_env Γ).2.2.1, 2, .inl (fun _ => 0)))])
  refine g_astore_n 7 X [(1, .ref q1), (0, .ref b)] dL_law_7 rfl (Nat.le_of_ble_eq_true rfl) rfl ?_
  refine g_new 8 X na_L_10 94 850 rfl rfl (Nat.le_of_ble_eq_true rfl) (Nat.le_of_ble_eq_true rfl) dL_law_8 (fun q32 => ?_)
  have X : g_X (g_at Γ 94 850) _ _ _ _ := X.at (Nat.le_of_ble_eq_true rfl) (Nat.le_of_ble_eq_true rfl)
  show g_G _ _ _ _ _ _ ([(q1, .inr (7, [.ref q2, .ref q4, .ref q6, .ref q10, .ref q14, .ref q18, .ref q21, .ref q24, .ref q28, .long 0])), (q2, .inr (6, [.ref q3, .int 0])), (q3, .inl ((g_env Γ).2.1, 99, .inl (fun _ => 0))), (q4, .inr (1, [.ref q5, .int (1 : Int32), .int (1 : Int32), .int (1 : Int32), .int 0, .int 0, .int 0])), (q5, .inl ((g_env Γ).2.1, 8, .inl (fun _ => 0))), (q6, .inr (5, [.ref q7, .ref q8, .ref q9, .int 0, .int 0, .int 0, .int 0, .int 0, .int 0, .int 0, .int 0, .int 0])), (q7, .inl ((g_env Γ).2.1, 8, .inl (fun _ => 0))), (q8, .inl ((g_env Γ).2.1, 5, .inl (fun _ => 0))), (q9, .inl ((g_env Γ).2.1, 8, .inl (fun _ => 0))), (q10, .inr (5, [.ref q11, .ref q12, .ref q13, .int 0, .int 0, .int 0, .int 0, .int 0, .int 0, .int 0, .int 0, .int 0])), (q11, .inl ((g_env Γ).2.1, 8, .inl (fun _ => 0))), (q12, .inl ((g_env Γ).2.1, 5, .inl (fun _ => 0))), (q13, .inl ((g_env Γ).2.1, 8, .inl (fun _ => 0))), (q14, .inr (5, [.ref q15, .ref q16, .ref q17, .int 0, .int 0, .int 0, .int 0, .int 0, .int 0, .int 0, .int 0, .int 0])), (q15, .inl ((g_env Γ).2.1, 8, .inl (fun _ => 0))), (q16, .inl ((g_env Γ).2.1, 5, .inl (fun _ => 0))), (q17, .inl ((g_env Γ).2.1, 8, .inl (fun _ => 0))), (q18, .inr (2, [.ref q19, .ref q20])), (q19, .inl ((g_env Γ).2.1, 8, .inl (fun _ => 0))), (q20, .inl ((g_env Γ).2.1, 8, .inl (fun _ => 0))), (q21, .inr (0, [.ref q22, .int 0, .int 0])), (q22, .inl ((g_env Γ).2.2.2.1, 14, .inr (.inr (.inr (.inr (fun k => some (p23 k 0)))))))] ++ g_pool (g_env Γ) p23 (fun _ _ => 0) (fun _ _ => 0) (fun _ _ => 0) (fun _ _ => 0) 14 ++ [(q24, .inr (3, [.ref q25, .ref q26, .ref q27, .int 0])), (q25, .inl ((g_env Γ).2.1, 6, .inl (fun _ => 0))), (q26, .inl ((g_env Γ).2.1, 6, .inl (fun _ => 0))), (q27, .inl ((g_env Γ).2.1, 6, .inl (fun _ => 0))), (q28, .inr (4, [.ref q29, .ref q31])), (q29, .inl ((g_env Γ).2.2.2.1, 2, .inr (.inr (.inr (.inr (fun k => some (p30 k 0)))))))] ++ g_pool (g_env Γ) p30 (fun _ _ => 0) (fun _ _ => 0) (fun _ _ => 0) (fun _ _ => 0) 2 ++ [(q31, .inl ((g_env Γ).2.2.1, 2, .inl (fun _ => 0))), (q32, .inr (8, [.null, .int 0, .int 0, .int 0, .int 0, .int 0, .int 0, .int 0, .null, .null, .null, .int 0, .int 0, .null, .null, .null, .null, .null, .int 0, .long 0, .int 0, .null, .null, .null, .null, .int 0, .int 0, .int 0, .null, .null, .int 0, .null, .int 0, .int 0]))])
  refine g_dup 11 X dL_law_11 rfl ?_
  refine g_cI 12 X (st := [.ref q32]) ci_L_12 dL_law_12 q32 (c_X8_init q32) [93] (fun u : Nat × Nat × Nat × Nat × Nat × Nat × Nat × Nat × Nat × Nat × Nat × Nat × Nat × Nat × Nat × Nat => ([(q1, .inr (7, [.ref q2, .ref q4, .ref q6, .ref q10, .ref q14, .ref q18, .ref q21, .ref q24, .ref q28, .long 0])), (q2, .inr (6, [.ref q3, .int 0])), (q3, .inl ((g_env Γ).2.1, 99, .inl (fun _ => 0))), (q4, .inr (1, [.ref q5, .int (1 : Int32), .int (1 : Int32), .int (1 : Int32), .int 0, .int 0, .int 0])), (q5, .inl ((g_env Γ).2.1, 8, .inl (fun _ => 0))), (q6, .inr (5, [.ref q7, .ref q8, .ref q9, .int 0, .int 0, .int 0, .int 0, .int 0, .int 0, .int 0, .int 0, .int 0])), (q7, .inl ((g_env Γ).2.1, 8, .inl (fun _ => 0))), (q8, .inl ((g_env Γ).2.1, 5, .inl (fun _ => 0))), (q9, .inl ((g_env Γ).2.1, 8, .inl (fun _ => 0))), (q10, .inr (5, [.ref q11, .ref q12, .ref q13, .int 0, .int 0, .int 0, .int 0, .int 0, .int 0, .int 0, .int 0, .int 0])), (q11, .inl ((g_env Γ).2.1, 8, .inl (fun _ => 0))), (q12, .inl ((g_env Γ).2.1, 5, .inl (fun _ => 0))), (q13, .inl ((g_env Γ).2.1, 8, .inl (fun _ => 0))), (q14, .inr (5, [.ref q15, .ref q16, .ref q17, .int 0, .int 0, .int 0, .int 0, .int 0, .int 0, .int 0, .int 0, .int 0])), (q15, .inl ((g_env Γ).2.1, 8, .inl (fun _ => 0))), (q16, .inl ((g_env Γ).2.1, 5, .inl (fun _ => 0))), (q17, .inl ((g_env Γ).2.1, 8, .inl (fun _ => 0))), (q18, .inr (2, [.ref q19, .ref q20])), (q19, .inl ((g_env Γ).2.1, 8, .inl (fun _ => 0))), (q20, .inl ((g_env Γ).2.1, 8, .inl (fun _ => 0))), (q21, .inr (0, [.ref q22, .int 0, .int 0])), (q22, .inl ((g_env Γ).2.2.2.1, 14, .inr (.inr (.inr (.inr (fun k => some (p23 k 0)))))))] ++ g_pool (g_env Γ) p23 (fun _ _ => 0) (fun _ _ => 0) (fun _ _ => 0) (fun _ _ => 0) 14 ++ [(q24, .inr (3, [.ref q25, .ref q26, .ref q27, .int 0])), (q25, .inl ((g_env Γ).2.1, 6, .inl (fun _ => 0))), (q26, .inl ((g_env Γ).2.1, 6, .inl (fun _ => 0))), (q27, .inl ((g_env Γ).2.1, 6, .inl (fun _ => 0))), (q28, .inr (4, [.ref q29, .ref q31])), (q29, .inl ((g_env Γ).2.2.2.1, 2, .inr (.inr (.inr (.inr (fun k => some (p30 k 0)))))))] ++ g_pool (g_env Γ) p30 (fun _ _ => 0) (fun _ _ => 0) (fun _ _ => 0) (fun _ _ => 0) 2 ++ [(q31, .inl ((g_env Γ).2.2.1, 2, .inl (fun _ => 0))), (q32, .inr (8, [.ref u.1, .int 0, .int (1 : Int32), .int (1 : Int32), .int (1 : Int32), .int 0, .int 0, .int 0, .ref u.2.1, .ref u.2.2.1, .ref u.2.2.2.1, .int 0, .int 0, .ref u.2.2.2.2.1, .ref u.2.2.2.2.2.1, .ref u.2.2.2.2.2.2.1, .ref u.2.2.2.2.2.2.2.1, .ref u.2.2.2.2.2.2.2.2.1, .int 0, .long 0, .int 0, .ref u.2.2.2.2.2.2.2.2.2.1, .ref u.2.2.2.2.2.2.2.2.2.2.1, .ref u.2.2.2.2.2.2.2.2.2.2.2.1, .ref u.2.2.2.2.2.2.2.2.2.2.2.2.1, .int 0, .int 0, .int 0, .ref u.2.2.2.2.2.2.2.2.2.2.2.2.2.1, .ref u.2.2.2.2.2.2.2.2.2.2.2.2.2.2.1, .int 0, .ref u.2.2.2.2.2.2.2.2.2.2.2.2.2.2.2, .int 0, .int 0])), (u.1, .inl ((g_env Γ).2.1, 99, .inl (fun _ => 0))), (u.2.1, .inl ((g_env Γ).2.1, 30, .inl (fun _ => 0))), (u.2.2.1, .inl ((g_env Γ).2.1, 30, .inl (fun _ => 0))), (u.2.2.2.1, .inl ((g_env Γ).2.1, 420, .inl (fun _ => 0))), (u.2.2.2.2.1, .inl ((g_env Γ).2.1, 60, .inl (fun _ => 0))), (u.2.2.2.2.2.1, .inl ((g_env Γ).2.2.1, 2, .inl (fun _ => 0))), (u.2.2.2.2.2.2.1, .inl ((g_env Γ).2.1, 6, .inl (fun _ => 0))), (u.2.2.2.2.2.2.2.1, .inl ((g_env Γ).2.1, 6, .inl (fun _ => 0))), (u.2.2.2.2.2.2.2.2.1, .inl ((g_env Γ).2.1, 6, .inl (fun _ => 0))), (u.2.2.2.2.2.2.2.2.2.1, .inl ((g_env Γ).2.1, 8, .inl (fun _ => 0))), (u.2.2.2.2.2.2.2.2.2.2.1, .inl ((g_env Γ).2.1, 8, .inl (fun _ => 0))), (u.2.2.2.2.2.2.2.2.2.2.2.1, .inl ((g_env Γ).2.1, 8, .inl (fun _ => 0))), (u.2.2.2.2.2.2.2.2.2.2.2.2.1, .inl ((g_env Γ).2.1, 256, .inl (fun _ => 0))), (u.2.2.2.2.2.2.2.2.2.2.2.2.2.1, .inl ((g_env Γ).2.1, 3, .inl (fun _ => 0))), (u.2.2.2.2.2.2.2.2.2.2.2.2.2.2.1, .inl ((g_env Γ).2.1, 5, .inl (fun _ => 0))), (u.2.2.2.2.2.2.2.2.2.2.2.2.2.2.2, .inl ((g_env Γ).2.1, 8, .inl (fun _ => 0)))])) 110 1805 rfl rfl (Nat.le_of_ble_eq_true rfl) (Nat.le_of_ble_eq_true rfl) ⟨(Nat.le_of_ble_eq_true rfl), (Nat.le_of_ble_eq_true rfl)⟩ (Nat.le_of_ble_eq_true rfl) rfl (by decide) (fun _ => rfl) (fun _ => rfl) (fun u _ => ?_)
  obtain ⟨q33, q34, q35, q36, q37, q38, q39, q40, q41, q42, q43, q44, q45, q46, q47, q48⟩ := u
  have X : g_X (g_at Γ 110 1805) _ _ _ _ := X.at (Nat.le_of_ble_eq_true rfl) (Nat.le_of_ble_eq_true rfl)
  show g_G _ _ _ _ _ _ ([(q1, .inr (7, [.ref q2, .ref q4, .ref q6, .ref q10, .ref q14, .ref q18, .ref q21, .ref q24, .ref q28, .long 0])), (q2, .inr (6, [.ref q3, .int 0])), (q3, .inl ((g_env Γ).2.1, 99, .inl (fun _ => 0))), (q4, .inr (1, [.ref q5, .int (1 : Int32), .int (1 : Int32), .int (1 : Int32), .int 0, .int 0, .int 0])), (q5, .inl ((g_env Γ).2.1, 8, .inl (fun _ => 0))), (q6, .inr (5, [.ref q7, .ref q8, .ref q9, .int 0, .int 0, .int 0, .int 0, .int 0, .int 0, .int 0, .int 0, .int 0])), (q7, .inl ((g_env Γ).2.1, 8, .inl (fun _ => 0))), (q8, .inl ((g_env Γ).2.1, 5, .inl (fun _ => 0))), (q9, .inl ((g_env Γ).2.1, 8, .inl (fun _ => 0))), (q10, .inr (5, [.ref q11, .ref q12, .ref q13, .int 0, .int 0, .int 0, .int 0, .int 0, .int 0, .int 0, .int 0, .int 0])), (q11, .inl ((g_env Γ).2.1, 8, .inl (fun _ => 0))), (q12, .inl ((g_env Γ).2.1, 5, .inl (fun _ => 0))), (q13, .inl ((g_env Γ).2.1, 8, .inl (fun _ => 0))), (q14, .inr (5, [.ref q15, .ref q16, .ref q17, .int 0, .int 0, .int 0, .int 0, .int 0, .int 0, .int 0, .int 0, .int 0])), (q15, .inl ((g_env Γ).2.1, 8, .inl (fun _ => 0))), (q16, .inl ((g_env Γ).2.1, 5, .inl (fun _ => 0))), (q17, .inl ((g_env Γ).2.1, 8, .inl (fun _ => 0))), (q18, .inr (2, [.ref q19, .ref q20])), (q19, .inl ((g_env Γ).2.1, 8, .inl (fun _ => 0))), (q20, .inl ((g_env Γ).2.1, 8, .inl (fun _ => 0))), (q21, .inr (0, [.ref q22, .int 0, .int 0])), (q22, .inl ((g_env Γ).2.2.2.1, 14, .inr (.inr (.inr (.inr (fun k => some (p23 k 0)))))))] ++ g_pool (g_env Γ) p23 (fun _ _ => 0) (fun _ _ => 0) (fun _ _ => 0) (fun _ _ => 0) 14 ++ [(q24, .inr (3, [.ref q25, .ref q26, .ref q27, .int 0])), (q25, .inl ((g_env Γ).2.1, 6, .inl (fun _ => 0))), (q26, .inl ((g_env Γ).2.1, 6, .inl (fun _ => 0))), (q27, .inl ((g_env Γ).2.1, 6, .inl (fun _ => 0))), (q28, .inr (4, [.ref q29, .ref q31])), (q29, .inl ((g_env Γ).2.2.2.1, 2, .inr (.inr (.inr (.inr (fun k => some (p30 k 0)))))))] ++ g_pool (g_env Γ) p30 (fun _ _ => 0) (fun _ _ => 0) (fun _ _ => 0) (fun _ _ => 0) 2 ++ [(q31, .inl ((g_env Γ).2.2.1, 2, .inl (fun _ => 0))), (q32, .inr (8, [.ref q33, .int 0, .int (1 : Int32), .int (1 : Int32), .int (1 : Int32), .int 0, .int 0, .int 0, .ref q34, .ref q35, .ref q36, .int 0, .int 0, .ref q37, .ref q38, .ref q39, .ref q40, .ref q41, .int 0, .long 0, .int 0, .ref q42, .ref q43, .ref q44, .ref q45, .int 0, .int 0, .int 0, .ref q46, .ref q47, .int 0, .ref q48, .int 0, .int 0])), (q33, .inl ((g_env Γ).2.1, 99, .inl (fun _ => 0))), (q34, .inl ((g_env Γ).2.1, 30, .inl (fun _ => 0))), (q35, .inl ((g_env Γ).2.1, 30, .inl (fun _ => 0))), (q36, .inl ((g_env Γ).2.1, 420, .inl (fun _ => 0))), (q37, .inl ((g_env Γ).2.1, 60, .inl (fun _ => 0))), (q38, .inl ((g_env Γ).2.2.1, 2, .inl (fun _ => 0))), (q39, .inl ((g_env Γ).2.1, 6, .inl (fun _ => 0))), (q40, .inl ((g_env Γ).2.1, 6, .inl (fun _ => 0))), (q41, .inl ((g_env Γ).2.1, 6, .inl (fun _ => 0))), (q42, .inl ((g_env Γ).2.1, 8, .inl (fun _ => 0))), (q43, .inl ((g_env Γ).2.1, 8, .inl (fun _ => 0))), (q44, .inl ((g_env Γ).2.1, 8, .inl (fun _ => 0))), (q45, .inl ((g_env Γ).2.1, 256, .inl (fun _ => 0))), (q46, .inl ((g_env Γ).2.1, 3, .inl (fun _ => 0))), (q47, .inl ((g_env Γ).2.1, 5, .inl (fun _ => 0))), (q48, .inl ((g_env Γ).2.1, 8, .inl (fun _ => 0)))])
  refine g_astore_n 15 X [(2, .ref q32), (1, .ref q1), (0, .ref b)] dL_law_15 rfl (Nat.le_of_ble_eq_true rfl) rfl ?_
  refine g_iconst 16 X (0 : Int32) dL_law_16 k_ic_0 ?_
  refine g_istore_n 17 X [(3, .int (0 : Int32)), (2, .ref q32), (1, .ref q1), (0, .ref b)] dL_law_17 rfl (Nat.le_of_ble_eq_true rfl) rfl ?_
  refine g_sub [(0, .ref b), (1, .ref q1), (2, .ref q32), (3, .int (0 : Int32))] [3, 2, 1, 0] rfl ?_
  refine g_perm 18 ((WX (g_env Γ) q1 q2 q3 q4 q5 q6 q7 q8 q9 q10 q11 q12 q13 q14 q15 q16 q17 q18 q19 q20 q21 q22 q24 q25 q26 q27 q28 q29 p30 q31 p23 0 0 (fun _ => 0) (1 : Int32) (1 : Int32) (1 : Int32) 0 0 0 (fun _ => 0) 0 0 0 0 0 0 0 0 0 (fun _ => 0) (fun _ => 0) (fun _ => 0) 0 0 0 0 0 0 0 0 0 (fun _ => 0) (fun _ => 0) (fun _ => 0) 0 0 0 0 0 0 0 0 0 (fun _ => 0) (fun _ => 0) (fun _ => 0) (fun _ => 0) (fun _ => 0) 0 0 0 (fun _ => 0) (fun _ => 0) (fun _ => 0) (fun _ _ => 0) (fun _ _ => 0) (fun _ _ => 0) (fun _ _ => 0) (fun _ => 0) (fun _ _ => 0) (fun _ _ => 0) (fun _ _ => 0) (fun _ _ => 0)) ++ (WM (g_env Γ) q32 q33 q34 q35 q36 q37 q38 q39 q40 q41 q42 q43 q44 q45 q46 q47 q48 (.int 0) 0 (1 : Int32) (1 : Int32) (1 : Int32) 0 0 0 0 0 0 0 0 0 0 0 0 0 (fun _ => 0) (fun _ => 0) (fun _ => 0) (fun _ => 0) (fun _ => 0) (fun _ => 0) (fun _ => 0) (fun _ => 0) (fun _ => 0) (fun _ => 0) (fun _ => 0) (fun _ => 0) (fun _ => 0) (fun _ => 0) (fun _ => 0) (fun _ => 0))) [0, 1, 2, 3, 4, 5, 6, 7, 8, 9, 10, 11, 12, 13, 14, 15, 16, 17, 18, 19, 20, 21, 78, 79, 80, 81, 82, 83, 84, 85, 86, 87, 88, 89, 90, 91, 92, 22, 23, 24, 25, 26, 27, 28, 29, 30, 31, 32, 33, 34, 35, 36, 37, 38, 39, 40, 41, 42, 43, 44, 45, 46, 47, 48, 49, 50, 51, 52, 53, 54, 55, 56, 57, 58, 59, 60, 61, 62, 63, 64, 65, 66, 67, 68, 69, 70, 71, 72, 73, 74, 75, 76, 77, 93, 94, 95, 96, 97, 98, 99, 100, 101, 102, 103, 104, 105, 106, 107, 108, 109] (by decide +kernel) rfl ?_
  obtain ⟨n, hn⟩ := law_ok L hL xs
  exact l_LL X (g_scr.at hX) q1 q2 q3 q4 q5 q6 q7 q8 q9 q10 q11 q12 q13 q14 q15 q16 q17 q18 q19 q20 q21 q22 q24 q25 q26 q27 q28 q29 p30 q31 q32 q33 q34 q35 q36 q37 q38 q39 q40 q41 q42 q43 q44 q45 q46 q47 q48 p23 (.int 0) (fun ls ws => hend 110 1805 ls ws (Nat.le_of_ble_eq_true rfl) (Nat.le_of_ble_eq_true rfl) X) n (0 : Int32) 0 0 (fun _ => 0) (1 : Int32) (1 : Int32) (1 : Int32) 0 0 0 (fun _ => 0) 0 0 0 0 0 0 0 0 0 (fun _ => 0) (fun _ => 0) (fun _ => 0) 0 0 0 0 0 0 0 0 0 (fun _ => 0) (fun _ => 0) (fun _ => 0) 0 0 0 0 0 0 0 0 0 (fun _ => 0) (fun _ => 0) (fun _ => 0) (fun _ => 0) (fun _ => 0) 0 0 0 (fun _ => 0) (fun _ => 0) (fun _ => 0) (fun _ _ => 0) (fun _ _ => 0) (fun _ _ => 0) (fun _ _ => 0) (fun _ => 0) 0 (1 : Int32) (1 : Int32) (1 : Int32) 0 0 0 0 0 0 0 0 0 0 0 0 0 (fun _ => 0) (fun _ => 0) (fun _ => 0) (fun _ => 0) (fun _ => 0) (fun _ => 0) (fun _ => 0) (fun _ => 0) (fun _ => 0) (fun _ => 0) (fun _ => 0) (fun _ => 0) (fun _ => 0) (fun _ => 0) (fun _ => 0) (fun _ => 0) (fun _ _ => 0) (fun _ _ => 0) (fun _ _ => 0) (fun _ _ => 0) hn
set_option maxHeartbeats 4000000 in
set_option maxRecDepth 100000 in
theorem whole_start {p : Program} {e : Env} {s : State} {m : MethodId} {below : List Frame} {meth : Method} {c : Code} (l : Launch) (hflags : l.flags = flags0) {b L : Nat} {xs : Nat → Int32} (hL : L ≤ 2048) (C0 : lw_At p s m meth c b L xs) : W p l e room_1 s m #[Value.ref b] below meth c s.heap [] 0 0 (lw_Z below #[Value.ref b] s) (entryFrame m ([Value.ref b] : List Value).toArray 4) := by
  obtain ⟨hx, hb, hr, hml, hown, hts0, hX, hbl, hlocks, hgv⟩ := id C0
  have hts : ∀ w ∈ lw_gw, w.before #[Value.ref b] s = true := fun w h => hts0 w (gw_tbl h)
  have hA : ∀ q : Nat, s.heap.size ≤ q → (fun q : Nat => s.heap.size ≤ q) q := fun _ h => h
  have hnA : ∀ a : Nat, a < s.heap.size → ¬ (fun q : Nat => s.heap.size ≤ q) a := fun a h => Nat.not_le.mpr h
  obtain ⟨c0, iS0, hKn0⟩ := u_known (C := RX0) (T := TX0) (N := 3) (n := 3) hts lay_X0 (hts _ inst_X0)
  obtain ⟨c1, iS1, hKn1⟩ := u_known (C := RX1) (T := TX1) (N := 7) (n := 7) hts lay_X1 (hts _ inst_X1)
  obtain ⟨c2, iS2, hKn2⟩ := u_known (C := RX2) (T := TX2) (N := 2) (n := 2) hts lay_X2 (hts _ inst_X2)
  obtain ⟨c3, iS3, hKn3⟩ := u_known (C := RX3) (T := TX3) (N := 4) (n := 4) hts lay_X3 (hts _ inst_X3)
  obtain ⟨c4, iS4, hKn4⟩ := u_known (C := RX4) (T := TX4) (N := 2) (n := 2) hts lay_X4 (hts _ inst_X4)
  obtain ⟨c5, iS5, hKn5⟩ := u_known (C := RX5) (T := TX5) (N := 12) (n := 12) hts lay_X5 (hts _ inst_X5)
  obtain ⟨c6, iS6, hKn6⟩ := u_known (C := RX6) (T := TX6) (N := 2) (n := 2) hts lay_X6 (hts _ inst_X6)
  obtain ⟨c7, iS7, hKn7⟩ := u_known (C := RX7) (T := TX7) (N := 10) (n := 10) hts lay_X7 (hts _ inst_X7)
  obtain ⟨c8, iS8, hKn8⟩ := u_known (C := RX8) (T := TX8) (N := 34) (n := 34) hts lay_X8 (hts _ inst_X8)
  obtain ⟨dC, dI, hKc⟩ : ∃ (dC : Nat → ClassId) (dI : Nat → Nat → Nat), ∀ (k : Nat) (q : vw_C), vwCl[k]? = some q → u_Kn s q.1 q.2.1 q.2.2 (dC k) (dI k) := by
    refine ⟨fun k => match k with | 0 => c0 | 1 => c1 | 2 => c2 | 3 => c3 | 4 => c4 | 5 => c5 | 6 => c6 | 7 => c7 | _ => c8, fun k => match k with | 0 => iS0 | 1 => iS1 | 2 => iS2 | 3 => iS3 | 4 => iS4 | 5 => iS5 | 6 => iS6 | 7 => iS7 | _ => iS8, ?_⟩
    intro k q hq
    match k, hq with
    | 0, hq => cases hq; exact hKn0
    | 1, hq => cases hq; exact hKn1
    | 2, hq => cases hq; exact hKn2
    | 3, hq => cases hq; exact hKn3
    | 4, hq => cases hq; exact hKn4
    | 5, hq => cases hq; exact hKn5
    | 6, hq => cases hq; exact hKn6
    | 7, hq => cases hq; exact hKn7
    | 8, hq => cases hq; exact hKn8
    | k + 9, hq => simp [vwCl] at hq
  obtain ⟨cI, kI, compI, i1, i2, i3⟩ := Cond.arrayClass_spec (hts _ gw_arrI)
  obtain ⟨cZ, kZ, compZ, z1, z2, z3⟩ := Cond.arrayClass_spec (hts _ gw_arrZ)
  have hAO : va_AO "HeatLines$State" s := va_AO.of (hts0 (.arrayOver (.object "HeatLines$State")) (List.mem_of_getElem? (i := 211) (by decide +kernel)))
  obtain ⟨compS, cS, kS, s1, s2, s3, s4, s5⟩ := Cond.arrayOver_spec hAO
  have hfl := flat_of_before _ hgv
  have hel : ∀ j : Nat, j < 9 → (Term.elem (.static "HeatLines" "FACTORIALS" "[I") (.int (Int32.ofNat j))).eval #[Value.ref b] s none [] s = some (.int (g_fc j)) := by
    intro j hj
    match j, hj with
    | 0, _ => exact va_eqt (hfl (.eq (.elem (.static "HeatLines" "FACTORIALS" "[I") (.int (0 : Int32))) (.int (1 : Int32))) (by decide +kernel))
    | 1, _ => exact va_eqt (hfl (.eq (.elem (.static "HeatLines" "FACTORIALS" "[I") (.int (1 : Int32))) (.int (1 : Int32))) (by decide +kernel))
    | 2, _ => exact va_eqt (hfl (.eq (.elem (.static "HeatLines" "FACTORIALS" "[I") (.int (2 : Int32))) (.int (2 : Int32))) (by decide +kernel))
    | 3, _ => exact va_eqt (hfl (.eq (.elem (.static "HeatLines" "FACTORIALS" "[I") (.int (3 : Int32))) (.int (6 : Int32))) (by decide +kernel))
    | 4, _ => exact va_eqt (hfl (.eq (.elem (.static "HeatLines" "FACTORIALS" "[I") (.int (4 : Int32))) (.int (24 : Int32))) (by decide +kernel))
    | 5, _ => exact va_eqt (hfl (.eq (.elem (.static "HeatLines" "FACTORIALS" "[I") (.int (5 : Int32))) (.int (120 : Int32))) (by decide +kernel))
    | 6, _ => exact va_eqt (hfl (.eq (.elem (.static "HeatLines" "FACTORIALS" "[I") (.int (6 : Int32))) (.int (720 : Int32))) (by decide +kernel))
    | 7, _ => exact va_eqt (hfl (.eq (.elem (.static "HeatLines" "FACTORIALS" "[I") (.int (7 : Int32))) (.int (5040 : Int32))) (by decide +kernel))
    | 8, _ => exact va_eqt (hfl (.eq (.elem (.static "HeatLines" "FACTORIALS" "[I") (.int (8 : Int32))) (.int (40320 : Int32))) (by decide +kernel))
    | j + 9, hj => exact absurd hj (by omega)
  obtain ⟨t, ht, hT⟩ := va_Tof (args := #[Value.ref b]) (s := s) (tm := .static "HeatLines" "FACTORIALS" "[I") (ty := .int) (N := 9) (f := fun j => .int (g_fc j)) (A := fun q : Nat => s.heap.size ≤ q) (by decide) (hfl (.arrayOf (.static "HeatLines" "FACTORIALS" "[I") .int) (by decide +kernel)) (va_eqt (hfl (.eq (.length (.static "HeatLines" "FACTORIALS" "[I")) (.int 9)) (by decide +kernel))) hel hnA
  have hZ : va_Z "HeatLines" "FACTORIALS" "[I" (.ref t) (fun q : Nat => s.heap.size ≤ q) s s.heap := va_Zref (hts0 (.laysStatic "HeatLines" "FACTORIALS" "[I") (List.mem_of_getElem? (i := 601) (by decide +kernel))) (hts _ ini_X7) ht hnA
  have hK : va_K (dC, dI) vwCl (g_tys ((dC, dI), cI, cZ, cS, t)) s := by
    refine ⟨hKc, fun k q hq => ?_⟩
    match k, hq with
    | 0, hq => cases hq; exact ⟨fun n z => ⟨(fun k h => by cases h), kI, i2, compI, i3⟩, i1⟩
    | 1, hq => cases hq; exact ⟨fun n z => ⟨(fun k h => by cases h), kZ, z2, compZ, z3⟩, z1⟩
    | 2, hq => cases hq; exact ⟨fun n z => ⟨(fun k h => by cases h), kS, s3, compS, s4⟩, kS, compS, s3, s4, s1, s5⟩
    | k + 3, hq => simp [g_tys] at hq
  have hNe : ∀ q ∈ g_nests, va_Nw (.methodLinkNest q.1 q.2.1 q.2.2.1 q.2.2.2) s := by
    intro q hq
    have hin : Cond.methodLinkNest q.1 q.2.1 q.2.2.1 q.2.2.2 ∈ lw_tbl := by
      have := (by decide +kernel : ∀ q ∈ g_nests, Cond.methodLinkNest q.1 q.2.1 q.2.2.1 q.2.2.2 ∈ lw_tbl)
      exact this q hq
    exact va_Nw.of rfl (hts0 _ hin)
  have key := start_G (Γ := (p, l, e, s, m, #[Value.ref b], below, meth, c, ((dC, dI), cI, cZ, cS, t), (fun q : Nat => s.heap.size ≤ q), 0, 0, lw_Z below #[Value.ref b] s)) (b := b) (L := L) (xs := xs) ⟨hx, hb, hml, hown, hts, hK, ⟨hNe, hZ, hT, hAO⟩, hA, Nat.zero_le _, Nat.zero_le _⟩ hL ⟨hX, hbl, hnA b hbl⟩ (by
    intro kc ks ls ws h1 h2 hXX H locs la hP hD hS hl
    refine lv_iconst (v := 1) hx hb dL_law_879 (by decide) ?_
    refine va_forget (fun q hq => hS.2.2 q hq) ?_
    refine W.widen (k := 600000) (n := 7302250) h1 h2 ?_
    exact lw_ret hx hb hr hlocks dL_law_880)
  rw [lg_entry_eq]
  exact key s.heap [] _ (fun k q h => by simp at h) ⟨fun i j p q h => by simp at h, fun k q h => by simp at h⟩ va_S.rf (lv_entry [.ref b] (Nat.le_of_ble_eq_true rfl))
-- ===== YOUR PART ENDS =====
set_option maxHeartbeats 4000000 in
theorem lw_walk (l : Launch) (hflags : l.flags = flags0) (b : Addr) (xs : List Int32) : MetFree l x (headSpec (Jvm.Cond.code x code maxLocals ret :: tables_1) room_1) (lw_P b xs) (fun _ _ _ _ _ => True) lw_Q := by
  refine MetFree.of_bodyS (code := code) (maxLocals := maxLocals) (ret := ret) (by decide) ?_ ?_
  · intro args s m h hn
    obtain ⟨meth, c, h1, h2, h3, h4, h5, h6, -, -⟩ := Cond.code_spec hn (atoms_spec (ws := Jvm.Cond.code x code maxLocals ret :: tables_1) h _ List.mem_cons_self)
    exact ⟨meth, c, h1, h2, h3, h4, h5, h6⟩
  · intro p e s m args below meth c s₁ B hml0 hP _
    obtain ⟨rfl, hx, hbd, hgv⟩ := hP
    obtain ⟨scr, harrAt, hlist, hof, hsmall⟩ := hx
    obtain ⟨hcb, hkn, -, -⟩ := State.arrayAt?_spec harrAt
    have hown : s.vm.findClass R_law = some m.cls := findClass_of_methodNamed B.named
    have hts0 : ∀ c ∈ (Jvm.Cond.code x code maxLocals ret :: tables_1), c.before #[Value.ref b] s = true := atoms_spec (ws := Jvm.Cond.code x code maxLocals ret :: tables_1) B.pre
    have hts : ∀ w ∈ lw_tbl, w.before #[Value.ref b] s = true := k2_hts_sels lw_privs (fun w hw => hts0 w (List.mem_cons_of_mem _ hw)) lw_privs_ok
    have hml : c.maxLocals = 4 := B.maxLocals_eq (hts0 _ List.mem_cons_self)
    have X₀ : Stand p l e room_1 s m #[Value.ref b] below meth c s₁ [] 0 0 := Stand.of_body B
    have hh0 : s₁.heap = s.heap := by rw [B.state]; rfl
    have hsz : scr.slots.size = xs.length := by rw [← Array.length_toList, hlist, List.length_map]
    have hval : ∀ j : Nat, j < xs.length → scr.slots[j]? = some (.int (xs.getD j 0)) := fun j hj => by
      rw [← Array.getElem?_toList, hlist]
      simp [hj]
    have hbl : b < s.heap.size := (Array.getElem?_eq_some_iff.mp hcb).1
    have hX : va_X b xs.length (fun j => xs.getD j 0) s s.heap := ⟨scr, hcb, hof, hkn, hsz, hval⟩
    have K : W p l e room_1 s m #[Value.ref b] below meth c s₁.heap [] 0 0 (lw_Z below #[Value.ref b] s) (entryFrame m ([Value.ref b] : List Value).toArray 4) := by
      rw [hh0]
      exact whole_start l hflags hbd ⟨B.exec, B.bytes, B.returns, hml, hown, hts, hX, hbl, B.notSynchronized, hgv⟩
    obtain ⟨t, a1, o, b1, b2, b3⟩ := K s₁ rfl X₀
    exact ⟨t, o, a1, b1, b2, b3⟩
theorem lw_pre_spec {args : Array Value} {s : State} (h : (Jvm.Cond.and given_1 narrow_1).before args s = true) (hr : rest_1_c.before args s = true) : ∃ (b : Addr) (xs : List Int32), lw_P b xs args s := by
  have hs := flat_of_before _ h
  have hq := flat_of_before _ hr
  have hc : (Cond.count 1).before args s = true := hs _ (by decide +kernel)
  have harr : (Cond.arrayOf (.arg 0) .int).before args s = true := hs _ (by decide +kernel)
  have hle : (Cond.le (.length (.arg 0)) (.int 2048)).before args s = true := hs _ (by decide +kernel)
  have hlen : (Cond.isInt (.length (.arg 0))).before args s = true := hq _ (by decide +kernel)
  have hall : (Cond.all (.arg 0) (.isInt (.elem (.arg 0) (.index 0)))).before args s = true := hq _ (by decide +kernel)
  obtain ⟨b, xs, hb, hx⟩ := State.ints_of_pre rfl harr hlen hall
  have hsm : xs.length < 2 ^ 31 := hx.choose_spec.2.2.2
  have hev : (Term.length (.arg 0)).eval args s none [] s = some (.int xs.length.toInt32) := hx.length_eval hb
  have hv := Cond.le_ints hev (show (Term.int 2048).eval args s none [] s = some (.int 2048) from rfl)
  have hd : xs.length.toInt32 ≤ 2048 := by
    simpa [Cond.before, Cond.holds, hv] using hle
  have hN : xs.length ≤ 2048 := (Int32.ofNat_le_ofNat hsm (by decide)).mp (show Int32.ofNat xs.length ≤ Int32.ofNat 2048 from hd)
  exact ⟨b, xs, Cond.one_arg hc (show args[0]? = some (.ref b) from hb), hx, hN, h⟩
theorem lw_comes (l : Launch) (hflags : l.flags = flags0) : Comes l x (Jvm.Cond.code x code maxLocals ret :: tables_1) room_1 (fun tb e args s => Calls_1 tb e args s ∧ rest_1 tb e args s ∧ Pre_1 tb e args s)
    (fun _ _ args s o t => lw_Q args s o t) := by
  intro p e ha hc hk s m args below hf hfit hheap happ hpre
  obtain ⟨b, xs, hP⟩ := lw_pre_spec hpre.2.2 hpre.2.1
  obtain ⟨k, o, h1, h2, h3, hQ⟩ := lw_walk l hflags b xs p e ha hc hk s m args below hf ((Spec.applies_iff_loose hf).mp happ).1 hP trivial
  exact ⟨k, o, h1, h2, h3, hQ⟩
theorem lw_frame {s t : State} {o : Outcome} {args : Array Value} (h : Framed s o t [] 600000 7302250) :
    Framed s o t (fieldLocs frame_1_writes args s ++ arrayLocs frame_1_arrays args s ++ staticLocs frame_1_statics s) 600000 7302250 := h
theorem lw_limb (L : Cond) (hL : ∀ (args : Array Value) (s t : State), L.after args s (.returned (some (.int 1))) t = true) :
    ArmFor flags0 classFile x code maxLocals ret World_1 tables_1 room_1 Calls_1 rest_1 Pre_1
      (fun tb e a s o t => postC L tb e a s o t ∧ Framed s o t (fieldLocs frame_1_writes a s ++ arrayLocs frame_1_arrays a s ++ staticLocs frame_1_statics s) 600000 7302250) := by
  intro l hflags _ _ p e ha hc hk s m args below hf hfit hheap happ hpre
  obtain ⟨k, o, h1, h2, h3, rfl, hF⟩ := lw_comes l hflags p e ha hc hk s m args below hf hfit hheap happ hpre
  exact ⟨k, _, h1, h2, h3, hL args s _, lw_frame hF⟩
theorem i_vc : Claimed_1_1 ∧ Claimed_1_2 := ⟨lw_limb limb_1_1 (fun args s t => by simp [limb_1_1, Cond.after, Cond.holds, Cond.value]), lw_limb limb_1_2 (fun args s t => Cond.after_iff.mpr (by
  first | (rw [show limb_1_2 = Cond.eq .result (.int 1) from rfl, Cond.eq_ints (x := 1) (y := 1) rfl rfl]; simp; done) | (simp [limb_1_2, Cond.value, Term.eval]; done)))⟩
