/-! ===== pure rows: dots dead by chance ===== -/
def sN (f : Nat → Nat) : Nat → Nat
  | 0 => 0
  | k + 1 => sN f k + f k
theorem sN_le {f g : Nat → Nat} : ∀ m, (∀ k, k < m → f k ≤ g k) → sN f m ≤ sN g m := by
  intro m
  induction m with
  | zero => intro _; exact Nat.le_refl 0
  | succ m ih =>
    intro h
    have h1 := ih (fun k hk => h k (by omega))
    have h2 := h m (by omega)
    show sN f m + f m ≤ sN g m + g m
    omega
theorem sN_rev (f : Nat → Nat) (M : Nat) : ∀ m, m ≤ M → sN (fun s => f (M - 1 - s)) m + sN f (M - m) = sN f M := by
  intro m
  induction m with
  | zero => intro _; show 0 + sN f (M - 0) = _; rw [Nat.zero_add, Nat.sub_zero]
  | succ m ih =>
    intro h
    have h1 := ih (by omega)
    obtain ⟨j, hj⟩ : ∃ j, M - m = j + 1 := ⟨M - m - 1, by omega⟩
    rw [hj] at h1
    have e1 : sN f (j + 1) = sN f j + f j := rfl
    have e2 : sN (fun s => f (M - 1 - s)) (m + 1) = sN (fun s => f (M - 1 - s)) m + f (M - 1 - m) := rfl
    rw [e2, show M - (m + 1) = j by omega, show M - 1 - m = j by omega]
    omega
theorem sN_all (f : Nat → Nat) (M : Nat) : sN (fun s => f (M - 1 - s)) M = sN f M := by
  have h := sN_rev f M M (Nat.le_refl M)
  rw [Nat.sub_self] at h
  exact h
set_option maxRecDepth 100000 in
theorem tot_c : ∀ n : Fin 9, ∀ x : Fin 11, sN (fun v => x.val ^ pcb v * (10 - x.val) ^ (n.val - pcb v)) (2 ^ n.val) ≤ 10 ^ n.val := by decide +kernel
def cW (n : Nat) (c lo hi gh : Int32) (q : Nat) (r : Nat → Int32) (v x : Nat) (D : Nat) : Nat := if rwd n c lo hi gh q r (nI D) < nI v then 0 else x ^ pcb D * (10 - x) ^ (n - pcb D)
theorem cW_le {n : Nat} (hn : n ≤ 8) {c lo hi gh : Int32} {q : Nat} {r : Nat → Int32} {v x : Nat} (hx : x ≤ 10) : sN (cW n c lo hi gh q r v x) (2 ^ n) ≤ 100000000 := by
  have h1 : sN (cW n c lo hi gh q r v x) (2 ^ n) ≤ sN (fun v => x ^ pcb v * (10 - x) ^ (n - pcb v)) (2 ^ n) := by
    refine sN_le _ (fun k _ => ?_)
    unfold cW
    split
    · exact Nat.zero_le _
    · exact Nat.le_refl _
  have h2 := tot_c ⟨n, by omega⟩ ⟨x, by omega⟩
  have h3 := Nat.pow_le_pow_right (show 0 < 10 by decide) hn
  have h4 : (10 : Nat) ^ 8 = 100000000 := by decide
  dsimp only at h2
  omega
theorem wt_le {n x j : Nat} (hn : n ≤ 8) (hx : x ≤ 10) (hj : j ≤ n) : x ^ j * (10 - x) ^ (n - j) ≤ 100000000 := by
  have h1 := Nat.pow_le_pow_left hx j
  have h2 := Nat.pow_le_pow_left (show 10 - x ≤ 10 by omega) (n - j)
  have h3 := Nat.mul_le_mul h1 h2
  rw [← Nat.pow_add, Nat.add_sub_cancel' hj] at h3
  have h4 := Nat.pow_le_pow_right (show 0 < 10 by decide) hn
  have h5 : (10 : Nat) ^ 8 = 100000000 := by decide
  omega
theorem lgc_le {a b : Int64} : lg_cmp a b ≤ 0 ↔ a ≤ b := by
  constructor
  · intro h
    exact Int64.not_lt.mp (fun z => absurd (lgc_gt.mpr z) (Int32.not_lt.mpr h))
  · intro h
    exact Int32.not_lt.mp (fun z => absurd (lgc_gt.mp z) (Int64.not_lt.mpr h))
theorem sp_chanceL7 {n q v x : Nat} (hn : n ≤ 8) (hx : x ≤ 10) {c lo hi gh qd la be ri a b d g pr x3 : Int32} {hs fg qu r : Nat → Int32} (hC : CR n q qd la be ri a b d g pr hs fg qu r)
    {C : Int64 → (Nat → Int32) → Int32 → Int32 → Int32 → Int32 → Int32 → Int32 → Int32 → Int32 → Int32 → (Nat → Int32) → (Nat → Int32) → (Nat → Int32) → Prop}
    (hK : ∀ p' a1 a2 a3 a4 a5 a6 a7 a8 a9 f1 f2 f3, C (lN (sN (cW n c lo hi gh q r v x) (2 ^ n))) p' a1 a2 a3 a4 a5 a6 a7 a8 a9 f1 f2 f3) :
    ∀ m k p a1 a2 a3 a4 a5 a6 a7 a8 a9 f1 f2 f3, k + m = 2 ^ n →
    P_X7_chance_L38 (nI n) c lo hi gh qd la be ri a b d g pr hs fg qu (nI v) (nI x) x3 (nI (2 ^ n - 1)) C (m + 1) (lN (sN (cW n c lo hi gh q r v x) k)) (nI k) p a1 a2 a3 a4 a5 a6 a7 a8 a9 f1 f2 f3 := by
  have h8 := two_pow_8 hn
  have hp2 := pow_pos2 n
  intro m
  induction m with
  | zero =>
    intro k p a1 a2 a3 a4 a5 a6 a7 a8 a9 f1 f2 f3 hk
    unfold P_X7_chance_L38
    have e : k = 2 ^ n := by omega
    subst e
    exact br_t (nI_lt (by omega) (by omega)) (hK _ _ _ _ _ _ _ _ _ _ _ _ _)
  | succ m ih =>
    intro k p a1 a2 a3 a4 a5 a6 a7 a8 a9 f1 f2 f3 hk
    unfold P_X7_chance_L38
    refine br_f (nI_nlt (by omega) (by omega)) (sp_bitCount (by omega) ?_)
    have hpc := (chk_at hn (show k < 2 ^ n by omega)).1
    refine sp_power (by omega) (by omega) ?_
    rw [show (10 : Int32) = nI 10 from rfl, pk_sub hx, pk_sub hpc]
    refine sp_power (by omega) (by omega) ?_
    rw [lN_mul, nI_1]
    have hw := wt_le hn hx hpc
    have hs : sN (cW n c lo hi gh q r v x) (k + 1) = sN (cW n c lo hi gh q r v x) k + cW n c lo hi gh q r v x k := rfl
    have h := ih (k + 1)
    rw [hs] at h
    refine ⟨fun hz => ?_, fun hz => sp_rightWithDead hn hC ?_⟩
    · have h0 : x ^ pcb k * (10 - x) ^ (n - pcb k) = 0 := by
        have := (pk_lLE (b := 0) (by omega) (by omega)).mp (lgc_le.mp hz)
        omega
      have e0 : cW n c lo hi gh q r v x k = 0 := by
        unfold cW
        split
        · rfl
        · exact h0
      rw [e0, Nat.add_zero] at h
      exact h _ _ _ _ _ _ _ _ _ _ _ _ _ (by omega)
    · intro p1 b1 b2 b3 b4 b5 b6 b7 b8 b9 g1 g2 g3
      unfold cW at h
      refine ⟨fun z => ?_, fun z => ?_⟩
      · rw [if_pos z, Nat.add_zero] at h
        exact h _ _ _ _ _ _ _ _ _ _ _ _ _ (by omega)
      · rw [if_neg z] at h
        rw [lN_add]
        exact h _ _ _ _ _ _ _ _ _ _ _ _ _ (by omega)
theorem ten_pow {n : Nat} (hn : n ≤ 8) : 1 ≤ 10 ^ n ∧ 10 ^ n ≤ 100000000 := by
  have h4 := Nat.pow_le_pow_right (show 0 < 10 by decide) hn
  have h5 : (10 : Nat) ^ 8 = 100000000 := by decide
  have h6 : 0 < 10 ^ n := Nat.pow_pos (by decide)
  omega
theorem sp_chanceL8 {n q v x : Nat} (hn : n ≤ 8) (hx : x ≤ 10) (hq : q ≤ 8) {c lo hi gh x3 : Int32} {r : Nat → Int32} (h21 : r 21 = nI q) (hz : Z30 r) {C : Int32 → Int32 → (Nat → Int32) → (Nat → Int32) → Prop}
    (hK : ∀ t p, Z30 t → C (nI (sN (cW n c lo hi gh q r v x) (2 ^ n))) 0 t p) :
    ∀ m k t p, k + m = 2 ^ n → Z30 t → P_X8_chance_L33 (nI n) c lo hi gh r (nI v) (nI x) x3 C (m + 1) (nI (sN (fun s => cW n c lo hi gh q r v x (2 ^ n - 1 - s)) k)) (nI k) 0 t p := by
  have h8 := two_pow_8 hn
  intro m
  induction m with
  | zero =>
    intro k t p hk hzt
    unfold P_X8_chance_L33
    rw [one_c n (by omega)]
    have e : k = 2 ^ n := by omega
    subst e
    rw [sN_all]
    exact br_t (nI_le (Nat.le_refl _) (by omega)) (hK _ _ hzt)
  | succ m ih =>
    intro k t p hk hzt
    unfold P_X8_chance_L33
    rw [one_c n (by omega)]
    refine br_f (nI_ge (by omega) (by omega)) (sp_rightWith hn hq h21 hz hzt ?_)
    intro t' p' hz'
    obtain ⟨hpc, hpc2, hdw, -⟩ := chk_at hn (show k < 2 ^ n by omega)
    rw [hdw, nI_1]
    have hs : sN (fun s => cW n c lo hi gh q r v x (2 ^ n - 1 - s)) (k + 1) = sN (fun s => cW n c lo hi gh q r v x (2 ^ n - 1 - s)) k + cW n c lo hi gh q r v x (2 ^ n - 1 - k) := rfl
    have h := ih (k + 1) t' p' (by omega) hz'
    rw [hs] at h
    have ecw : cW n c lo hi gh q r v x (2 ^ n - 1 - k) = if rwd n c lo hi gh q r (nI (2 ^ n - 1 - k)) < nI v then 0 else x ^ (n - pcb k) * (10 - x) ^ pcb k := by
      unfold cW
      rw [hpc2, show n - (n - pcb k) = pcb k by omega]
    rw [ecw] at h
    refine ⟨fun z => ?_, fun z => ?_⟩
    · rw [if_pos z] at h
      rw [← nI_0, nI_add]
      exact h
    · rw [if_neg z] at h
      refine sp_ones (by omega) ?_
      rw [show (10 : Int32) = nI 10 from rfl, pk_sub hx]
      refine sp_raised (by omega) (sp_ones (by omega) ?_)
      rw [pk_sub hpc]
      refine sp_raised (by omega) ?_
      rw [pk_mul, nI_add, Nat.mul_comm]
      exact h
theorem rt_chance {L n q : Nat} (hn : n ≤ 8) {xs : Nat → Int32} {x3 c lo hi gh qd la be ri a b d g pr tq tl tb' tr ta tp td tg tn : Int32} {p hs fg qu th tf tu r mt' mp : Nat → Int32} {N : (Nat → Int32) → Int32 → Int32 → Int32 → Int32 → Int32 → Int32 → Int32 → Int32 → Int32 → (Nat → Int32) → (Nat → Int32) → (Nat → Int32) → Int32 → (Nat → Int32) → (Nat → Int32) → Prop}
    (hb1 : vp_in (x3 + 1) L) (hb2 : vp_in (x3 + 2) L) (hb3 : vp_in (x3 + 3) L) (hC : CR n q qd la be ri a b d g pr hs fg qu r) (hz : Z30 r) (hzt : Z30 mt')
    (hN : ∀ p' a1 a2 a3 a4 a5 a6 a7 a8 a9 f1 f2 f3 t' mp', Z30 t' → N p' a1 a2 a3 a4 a5 a6 a7 a8 a9 f1 f2 f3 0 t' mp') :
    P_T691 L xs x3 (nI n) c lo hi gh p qd la be ri a b d g pr hs fg qu tq tl tb' tr ta tp td tg tn th tf tu (nI n) c lo hi gh 0 r mt' mp N := by
  unfold P_T691
  refine ⟨hb1, hb2, hb3, ?_⟩
  generalize xs (Int32.toNatClampNeg (x3 + 1)) = z1
  generalize xs (Int32.toNatClampNeg (x3 + 2)) = z2
  generalize xs (Int32.toNatClampNeg (x3 + 3)) = z3
  have hNR := hN p tq tl tb' tr ta tp td tg tn th tf tu mt' mp hzt
  have both : ∀ u : Int32, P_X7_chance z1 z2 u (nI n) c lo hi gh p qd la be ri a b d g pr hs fg qu tq tl tb' tr ta tp td tg tn th tf tu (fun r7 p1 a1 a2 a3 a4 a5 a6 a7 a8 a9 f1 f2 f3 => P_X8_chance z1 z2 u (nI n) c lo hi gh 0 r mt' mp (fun r8 d1 t1 p2 => ((r7 = r8 → N p1 a1 a2 a3 a4 a5 a6 a7 a8 a9 f1 f2 f3 d1 t1 p2) ∧ (¬ r7 = r8 → False)))) := by
    intro u
    have bad1 : off z1 65 → P_X8_chance z1 z2 u (nI n) c lo hi gh 0 r mt' mp (fun r8 d1 t1 p2 => ((-2 = r8 → N p tq tl tb' tr ta tp td tg tn th tf tu d1 t1 p2) ∧ (¬ -2 = r8 → False))) := by
      intro h
      unfold P_X8_chance
      exact sp_inOff (m := 64) (by omega) rfl h (if00 (eqN hNR))
    unfold P_X7_chance
    rcases on_off z1 (n := 65) (by omega) with h | ⟨v, hv, rfl⟩
    · refine ⟨fun _ => bad1 h, fun y => ⟨fun _ => bad1 h, fun y2 => ?_⟩⟩
      rcases h with h | h
      · exact absurd h y
      · exact absurd (Int32.lt_of_lt_of_le (by decide) h) y2
    · refine br_f (nI_pos (by omega)) (br_f (nI_nlt (a := 64) (by omega) (by omega)) ?_)
      have bad2 : off z2 11 → P_X8_chance (nI v) z2 u (nI n) c lo hi gh 0 r mt' mp (fun r8 d1 t1 p2 => ((-2 = r8 → N p tq tl tb' tr ta tp td tg tn th tf tu d1 t1 p2) ∧ (¬ -2 = r8 → False))) := by
        intro h
        unfold P_X8_chance
        exact sp_inOn (m := 64) (by omega) rfl hv (if10 (sp_inOff (m := 10) (by omega) rfl h (if00' (eqN hNR))))
      rcases on_off z2 (n := 11) (by omega) with h | ⟨x, hx, rfl⟩
      · refine ⟨fun _ => bad2 h, fun y => ⟨fun y2 => ?_, fun _ => bad2 h⟩⟩
        rcases h with h | h
        · exact absurd h y
        · exact absurd y2 (Int32.not_le.mpr (Int32.lt_of_lt_of_le (by decide) h))
      · refine br_f (nI_pos (by omega)) (br_t (nI_le (b := 10) (by omega) (by omega)) ?_)
        unfold P_X1_allDots
        rw [all_c n (by omega)]
        refine ⟨2 ^ n + 1, sp_chanceL7 hn (by omega) hC ?_ (2 ^ n) 0 _ _ _ _ _ _ _ _ _ _ _ _ _ (by omega)⟩
        intro p' a1 a2 a3 a4 a5 a6 a7 a8 a9 f1 f2 f3
        have hle := cW_le (c := c) (lo := lo) (hi := hi) (gh := gh) (q := q) (r := r) (v := v) hn (show x ≤ 10 by omega)
        have ht := ten_pow hn
        refine sp_power (x := 10) (by omega) (by omega) ?_
        rw [lN_ofInt (sN _ _)]
        refine sp_told (by omega) (by omega) ht.1 (by omega) ?_
        unfold P_X8_chance
        refine sp_inOn (m := 64) (by omega) rfl hv (if10 (sp_inOn (m := 10) (by omega) rfl hx (if10' ?_)))
        refine ⟨2 ^ n + 1, sp_chanceL8 hn (by omega) hC.2.2.1 hC.2.2.2.1 hz ?_ (2 ^ n) 0 _ _ (by omega) hzt⟩
        intro t' p'' hz'
        refine sp_raised (x := 10) (by omega) ?_
        rw [nI_ofInt (sN _ _)]
        exact sp_fraction (by omega) (by omega) ht.1 (by omega) (eqN (hN _ _ _ _ _ _ _ _ _ _ _ _ _ _ _ hz'))
  by_cases hz3 : z3 = 0
  · refine br_t hz3 ?_
    have := both 0
    simp only [hz3, true_imp_iff, not_true_eq_false, false_imp_iff, and_true] at this ⊢
    exact this
  · refine br_f hz3 ?_
    have := both 1
    simp only [hz3, not_false_eq_true, true_imp_iff, false_imp_iff, true_and] at this ⊢
    exact this
