/-! ===== pure rows: counting loops, bits, one line printed ===== -/
def itr {σ : Type} (F : Nat → σ → σ) : Nat → σ → σ
  | 0, s => s
  | k + 1, s => F k (itr F k s)
theorem cnt_itr {σ : Type} {P : Nat → Int32 → σ → Prop} (n : Nat) (hn : n < 2 ^ 31) (F : Nat → σ → σ) (s0 : σ)
    (hexit : ∀ fuel, P (fuel + 1) (nI n) (itr F n s0))
    (hstep : ∀ fuel k s, k < n → s = itr F k s0 → P fuel (nI (k + 1)) (F k s) → P (fuel + 1) (nI k) s) : ∃ fuel, P fuel (0 : Int32) s0 := by
  have key : ∀ m k, k + m = n → P (m + 1) (nI k) (itr F k s0) := by
    intro m
    induction m with
    | zero => intro k hk; have h : k = n := by omega
              subst h; exact hexit 0
    | succ m ih => intro k hk; exact hstep (m + 1) k _ (by omega) rfl (ih (k + 1) (by omega))
  exact ⟨n + 1, by have h := key n 0 (by omega); rw [nI_0] at h; exact h⟩
theorem itr_inv {σ : Type} {F : Nat → σ → σ} (I : Nat → σ → Prop) {s0 : σ} (h0 : I 0 s0) (n : Nat) (hs : ∀ k s, k < n → I k s → I (k + 1) (F k s)) : ∀ k, k ≤ n → I k (itr F k s0) := by
  intro k
  induction k with
  | zero => intro _; exact h0
  | succ k ih => intro hk; exact hs k _ (by omega) (ih (by omega))
/-- the bit of a set at a place -/
def tb (w : Int32) (k : Nat) : Int32 := (w >>> (nI k &&& 31)) &&& 1
def bz (w : Int32) (k : Nat) : Bool := decide (tb w k = 1)
def bn (b : Bool) : Nat := if b then 1 else 0
theorem and1 (x : Int32) : x &&& 1 = 0 ∨ x &&& 1 = 1 := by
  rw [pk_and x 1 (by decide)]
  rcases Nat.mod_two_eq_zero_or_one x.toBitVec.toNat with h | h
  · left; rw [show (2:Nat) ^ 1 = 2 from rfl, h]; rfl
  · right; rw [show (2:Nat) ^ 1 = 2 from rfl, h]; rfl
theorem bn_t : bn true = 1 := rfl
theorem bn_f : bn false = 0 := rfl
theorem bn_le (b : Bool) : bn b ≤ 1 := by cases b <;> decide
theorem tb_val (w : Int32) (k : Nat) : tb w k = nI (bn (bz w k)) := by
  unfold bz
  rcases and1 (w >>> (nI k &&& 31)) with h | h
  · have e : tb w k = 0 := h
    rw [e]; decide
  · have e : tb w k = 1 := h
    rw [e]; decide
theorem tb_1 {w : Int32} {k : Nat} (h : bz w k = true) : tb w k = 1 := by rw [tb_val, h]; rfl
theorem tb_0 {w : Int32} {k : Nat} (h : bz w k = false) : tb w k = 0 := by rw [tb_val, h]; rfl
set_option maxRecDepth 100000 in
theorem tb_shl_c : ∀ v : Fin 256, ∀ k : Fin 8, tb (nI v.val <<< ((1 : Int32) &&& 31)) k.val = if k.val = 0 then 0 else tb (nI v.val) (k.val - 1) := by decide +kernel
set_option maxRecDepth 100000 in
theorem tb_shr_c : ∀ v : Fin 256, ∀ k : Fin 8, tb (nI v.val >>> ((1 : Int32) &&& 31)) k.val = tb (nI v.val) (k.val + 1) := by decide +kernel
/-- how many of the four are so -/
def nr (w la be : Int32) (k : Nat) : Nat := (if k = 0 then 0 else bn (bz w (k - 1))) + bn (bz w (k + 1)) + bn (bz la k) + bn (bz be k)
theorem nr_le (w la be : Int32) (k : Nat) : nr w la be k ≤ 4 := by
  unfold nr
  have h1 := bn_le (bz w (k - 1)); have h2 := bn_le (bz w (k + 1)); have h3 := bn_le (bz la k); have h4 := bn_le (bz be k)
  split <;> omega
theorem near_eq {v : Nat} (hv : v < 256) {k : Nat} (hk : k < 8) (la be : Int32) : ((tb (nI v <<< ((1 : Int32) &&& 31)) k + tb (nI v >>> ((1 : Int32) &&& 31)) k) + tb la k) + tb be k = nI (nr (nI v) la be k) := by
  have h1 := tb_shl_c ⟨v, hv⟩ ⟨k, hk⟩
  have h2 := tb_shr_c ⟨v, hv⟩ ⟨k, hk⟩
  dsimp only at h1 h2
  rw [h1, h2, tb_val (nI v) (k - 1), tb_val (nI v) (k + 1), tb_val la, tb_val be]
  unfold nr
  by_cases h0 : k = 0
  · rw [if_pos h0, if_pos h0, ← nI_0, nI_add, nI_add, nI_add]
  · rw [if_neg h0, if_neg h0, nI_add, nI_add, nI_add]
theorem sp_bit {w : Int32} {k : Nat} {K : Int32 → Prop} (h : K (tb w k)) : P_X7_bit w (nI k) K := h
theorem sp_has {w : Int32} {k : Nat} (hk : k < 2 ^ 31) {K : Int32 → Prop} (h : K (nI (bn (bz w k)))) : P_X8_has w (nI k) K := by
  unfold P_X8_has
  refine br_f (nI_pos hk) ?_
  cases hb : bz w k with
  | true =>
    rw [hb] at h
    exact ⟨fun q => absurd (tb_1 hb) q, fun _ => h⟩
  | false =>
    rw [hb] at h
    exact ⟨fun _ => h, fun q => absurd (q.symm.trans (tb_0 hb)) (by decide)⟩
theorem sp_has0 {w : Int32} {K : Int32 → Prop} (h : K (0 : Int32)) : P_X8_has w (nI 0 - 1) K := by
  unfold P_X8_has
  exact br_t (by decide) h
theorem sp_bit8 {b : Bool} {K : Int32 → Prop} (h : K (nI (bn b))) : P_X8_bit (nI (bn b)) K := by
  unfold P_X8_bit
  cases b with
  | true => exact ⟨fun q => absurd q (by decide), fun _ => h⟩
  | false => exact ⟨fun _ => h, fun q => absurd rfl q⟩
theorem sp_bit80 {K : Int32 → Prop} (h : K (0 : Int32)) : P_X8_bit (0 : Int32) K := sp_bit8 (b := false) h
-- cooling
def coF (c : Int32) (k : Nat) (f : Nat → Int32) : Nat → Int32 := upd f k (f k - (f k >>> (c &&& 31)))
def cool (n : Nat) (c : Int32) (f : Nat → Int32) : Nat → Int32 := itr (coF c) n f
theorem sp_coolDown {n : Nat} (hn : n ≤ 8) {c : Int32} {f : Nat → Int32} {K : (Nat → Int32) → Prop} (hK : K (cool n c f)) : P_X1_coolDown (nI n) c f K := by
  unfold P_X1_coolDown
  refine cnt_itr (P := fun fu i s => P_X1_coolDown_L2 (nI n) c (fun v => K v) fu i s) n (by omega) (coF c) f ?_ ?_
  · intro fu
    unfold P_X1_coolDown_L2
    exact br_t (nI_le (Nat.le_refl n) (by omega)) hK
  · intro fu k s hk _ hp
    unfold P_X1_coolDown_L2
    refine br_f (nI_ge hk (by omega)) ⟨vp_in_nI (by omega) (by omega), ?_⟩
    rw [nI_1, nI_clamp (by omega)]
    exact hp
theorem sp_coolOn {n : Nat} (hn : n ≤ 8) {c : Int32} {f : Nat → Int32} {K : (Nat → Int32) → Prop} (hK : K (cool n c f)) : P_X8_coolOn (nI n) c f K := by
  unfold P_X8_coolOn
  refine cnt_itr (P := fun fu i s => P_X8_coolOn_L2 (nI n) c (fun v => K v) fu i s) n (by omega) (coF c) f ?_ ?_
  · intro fu
    unfold P_X8_coolOn_L2
    exact br_t (nI_le (Nat.le_refl n) (by omega)) hK
  · intro fu k s hk _ hp
    unfold P_X8_coolOn_L2
    refine br_f (nI_ge hk (by omega)) ⟨vp_in_nI (by omega) (by omega), ?_⟩
    rw [nI_1, nI_clamp (by omega)]
    exact hp
-- pulses
def fpF (fg : Nat → Int32) (w la be : Int32) (k : Nat) (p : Nat → Int32) : Nat → Int32 := if bz w k then upd (upd p k 0) k (fg (nr w la be k)) else upd p k 0
theorem sp_findPulses {n v : Nat} (hn : n ≤ 8) (hv : v < 256) {la be : Int32} {p fg : Nat → Int32} {K : (Nat → Int32) → Prop} (hK : K (itr (fpF fg (nI v) la be) n p)) : P_X1_findPulses (nI v) la be (nI n) p fg K := by
  unfold P_X1_findPulses
  refine cnt_itr (P := fun fu i s => P_X1_findPulses_L3 (nI n) fg (nI v) la be (fun v => K v) fu i s) n (by omega) (fpF fg (nI v) la be) p ?_ ?_
  · intro fu
    unfold P_X1_findPulses_L3
    exact br_t (nI_le (Nat.le_refl n) (by omega)) hK
  · intro fu k s hk _ hp
    unfold P_X1_findPulses_L3
    refine br_f (nI_ge hk (by omega)) ⟨vp_in_nI (by omega) (by omega), ?_⟩
    refine sp_bit ?_
    unfold fpF at hp
    cases hb : bz (nI v) k with
    | false =>
      rw [hb] at hp
      refine ⟨fun _ => ?_, fun q => absurd (q.symm.trans (tb_0 hb)) (by decide)⟩
      rw [nI_1, nI_clamp (by omega)]
      exact hp
    | true =>
      rw [hb] at hp
      refine ⟨fun q => absurd (tb_1 hb) q, fun _ => ?_⟩
      refine sp_bit (sp_bit (sp_bit (sp_bit ?_)))
      rw [near_eq hv (by omega), nI_1, nI_clamp (by omega), nI_clamp (by have := nr_le (nI v) la be k; omega)]
      exact ⟨vp_in_nI (by have := nr_le (nI v) la be k; omega) (by omega), hp⟩
def lpF (fg : Nat → Int32) (w la be : Int32) (k : Nat) (p : Nat → Int32) : Nat → Int32 := if bz w k then upd p k (fg (8 + nr w la be k)) else upd p k (-9)
theorem sp_layPulses {n : Nat} (hn : n ≤ 8) {w la be : Int32} {p r : Nat → Int32} {K : (Nat → Int32) → Prop} (hK : K (itr (lpF r w la be) n p)) : P_X8_layPulses w la be (nI n) p r K := by
  unfold P_X8_layPulses
  refine cnt_itr (P := fun fu i s => P_X8_layPulses_L3 (nI n) r w la be (fun v => K v) fu i s) n (by omega) (lpF r w la be) p ?_ ?_
  · intro fu
    unfold P_X8_layPulses_L3
    exact br_t (nI_le (Nat.le_refl n) (by omega)) hK
  · intro fu k s hk _ hp
    unfold P_X8_layPulses_L3
    refine br_f (nI_ge hk (by omega)) ?_
    have tail : ∀ b : Nat, b ≤ 1 → b = (if k = 0 then 0 else bn (bz w (k - 1))) → P_X8_has w (nI k + 1) (fun r3 => (P_X8_bit r3 (fun r4 => (P_X8_has la (nI k) (fun r5 => (P_X8_bit r5 (fun r6 => (P_X8_has be (nI k) (fun r7 => (P_X8_bit r7 (fun r8 => (P_X8_has w (nI k) (fun r9 => ((r9 = (0 : Int32) → (vp_in (nI k) 8 ∧ P_X8_layPulses_L3 (nI n) r w la be (fun v => K v) fu (nI k + (1 : Int32)) (upd s (Int32.toNatClampNeg (nI k)) (-9 : Int32)))) ∧ (¬ r9 = (0 : Int32) → (vp_in ((8 : Int32) + (((nI b + r4) + r6) + r8)) 30 ∧ (vp_in (nI k) 8 ∧ P_X8_layPulses_L3 (nI n) r w la be (fun v => K v) fu (nI k + (1 : Int32)) (upd s (Int32.toNatClampNeg (nI k)) (r (Int32.toNatClampNeg ((8 : Int32) + (((nI b + r4) + r6) + r8)))))))))))))))))))))) := by
      intro b hb1 hbe
      rw [nI_1]
      refine sp_has (by omega) (sp_bit8 (sp_has (by omega) (sp_bit8 (sp_has (by omega) (sp_bit8 (sp_has (by omega) ?_))))))
      rw [nI_add, nI_add, nI_add, show (8 : Int32) = nI 8 from rfl, nI_add, nI_clamp (by omega : k < 2 ^ 31)]
      have hnr : b + bn (bz w (k + 1)) + bn (bz la k) + bn (bz be k) = nr w la be k := by unfold nr; rw [hbe]
      rw [hnr, nI_clamp (by have := nr_le w la be k; omega)]
      unfold lpF at hp
      cases hz : bz w k with
      | false =>
        rw [hz] at hp
        exact ⟨fun _ => ⟨vp_in_nI (by omega) (by omega), hp⟩, fun q => absurd rfl q⟩
      | true =>
        rw [hz] at hp
        exact ⟨fun q => absurd q (by decide), fun _ => ⟨vp_in_nI (by have := nr_le w la be k; omega) (by omega), vp_in_nI (by omega) (by omega), hp⟩⟩
    by_cases h0 : k = 0
    · subst h0
      refine sp_has0 (sp_bit80 ?_)
      exact tail 0 (by omega) (by rw [if_pos rfl])
    · rw [show nI k - 1 = nI (k - 1) by rw [show k = (k - 1) + 1 by omega, nI_pred]; rfl]
      refine sp_has (by omega) (sp_bit8 ?_)
      exact tail (bn (bz w (k - 1))) (bn_le _) (by rw [if_neg h0])
-- heating
def hF (n : Nat) (p : Nat → Int32) (ac : Nat → Bool) (k : Nat) (f : Nat → Int32) : Nat → Int32 :=
  if ac k then
    (let f1 := upd f k (f k + 10 * p k)
     let f2 := if k = 0 then f1 else upd f1 (k - 1) (f1 (k - 1) + 2 * p k)
     if n ≤ k + 1 then f2 else upd f2 (k + 1) (f2 (k + 1) + 2 * p k))
  else f
def clF (k : Nat) (f : Nat → Int32) : Nat → Int32 := upd f k (if f k < 999 then f k else 999)
def heat (n : Nat) (p : Nat → Int32) (ac : Nat → Bool) (f : Nat → Int32) : Nat → Int32 := itr clF n (itr (hF n p ac) n f)
theorem sp_heatUp {n : Nat} (hn : n ≤ 8) {z : Int32} {p f : Nat → Int32} {K : (Nat → Int32) → Prop} (hK : K (heat n p (bz z) f)) : P_X1_heatUp z (nI n) p f K := by
  unfold P_X1_heatUp
  refine cnt_itr (P := fun fu i s => P_X1_heatUp_L2 (nI n) p z (fun v => ∃ ne : Nat, P_X1_heatUp_L88 (nI n) (fun v => K v) ne (0 : Int32) v) fu i s) n (by omega) (hF n p (bz z)) f ?_ ?_
  · intro fu
    unfold P_X1_heatUp_L2
    refine br_t (nI_le (Nat.le_refl n) (by omega)) ?_
    refine cnt_itr (P := fun fu i s => P_X1_heatUp_L88 (nI n) (fun v => K v) fu i s) n (by omega) clF _ ?_ ?_
    · intro fu
      unfold P_X1_heatUp_L88
      exact br_t (nI_le (Nat.le_refl n) (by omega)) hK
    · intro fu k s hk _ hp
      unfold P_X1_heatUp_L88
      refine br_f (nI_ge hk (by omega)) ⟨vp_in_nI (by omega) (by omega), ?_⟩
      rw [nI_1, nI_clamp (by omega)]
      exact hp
  · intro fu k s hk _ hp
    unfold P_X1_heatUp_L2
    refine br_f (nI_ge hk (by omega)) (sp_bit ?_)
    unfold hF at hp
    cases hz : bz z k with
    | false =>
      rw [hz] at hp
      refine ⟨fun _ => ?_, fun q => absurd (q.symm.trans (tb_0 hz)) (by decide)⟩
      rw [nI_1]
      exact hp
    | true =>
      rw [hz] at hp
      refine ⟨fun q => absurd (tb_1 hz) q, fun _ => ⟨vp_in_nI (by omega) (by omega), ?_⟩⟩
      rw [nI_1, nI_clamp (by omega : k < 2 ^ 31), nI_clamp (by omega : k + 1 < 2 ^ 31)]
      by_cases h0 : k = 0
      · subst h0
        refine br_t (by decide) ?_
        by_cases h1 : n ≤ 1
        · simp only [if_pos h1, if_true, Nat.zero_add] at hp
          exact br_t (nI_le h1 (by omega)) hp
        · simp only [if_neg h1, if_true, Nat.zero_add] at hp
          exact br_f (nI_ge (by omega) (by omega)) ⟨vp_in_nI (by omega) (by omega), hp⟩
      · rw [show nI k - 1 = nI (k - 1) by rw [show k = (k - 1) + 1 by omega, nI_pred]; rfl, nI_clamp (by omega : k - 1 < 2 ^ 31)]
        refine br_f (by rw [← nI_0]; exact nI_ge (by omega) (by omega)) ⟨vp_in_nI (by omega) (by omega), ?_⟩
        by_cases h1 : n ≤ k + 1
        · simp only [if_pos h1, if_neg h0, if_true] at hp
          exact br_t (nI_le h1 (by omega)) hp
        · simp only [if_neg h1, if_neg h0, if_true] at hp
          exact br_f (nI_ge (by omega) (by omega)) ⟨vp_in_nI (by omega) (by omega), hp⟩
theorem sp_heatOn {n : Nat} (hn : n ≤ 8) {z : Int32} {p f : Nat → Int32} {K : (Nat → Int32) → Prop} (hK : K (heat n p (fun k => decide (¬ p k = -9) && !(bz z k)) f)) : P_X8_heatOn (nI n) z p f K := by
  unfold P_X8_heatOn
  refine cnt_itr (P := fun fu i s => P_X8_heatOn_L2 (nI n) z p (fun v => ∃ ne : Nat, P_X8_heatOn_L101 (nI n) (fun v => K v) ne (0 : Int32) v) fu i s) n (by omega) (hF n p (fun k => decide (¬ p k = -9) && !(bz z k))) f ?_ ?_
  · intro fu
    unfold P_X8_heatOn_L2
    refine br_t (nI_le (Nat.le_refl n) (by omega)) ?_
    refine cnt_itr (P := fun fu i s => P_X8_heatOn_L101 (nI n) (fun v => K v) fu i s) n (by omega) clF _ ?_ ?_
    · intro fu
      unfold P_X8_heatOn_L101
      exact br_t (nI_le (Nat.le_refl n) (by omega)) hK
    · intro fu k s hk _ hp
      unfold P_X8_heatOn_L101
      refine br_f (nI_ge hk (by omega)) ⟨vp_in_nI (by omega) (by omega), ?_⟩
      rw [nI_1, nI_clamp (by omega)]
      unfold clF at hp
      refine ⟨fun q => ?_, fun q => ?_⟩
      · by_cases h9 : s k < 999
        · rw [if_pos h9] at hp; exact hp
        · rw [if_neg h9] at hp
          have : s k = 999 := Int32.le_antisymm q (Int32.not_lt.mp h9)
          rw [this]; exact hp
      · rw [if_neg (fun h => q (Int32.le_of_lt h))] at hp
        exact hp
  · intro fu k s hk _ hp
    unfold P_X8_heatOn_L2
    refine br_f (nI_ge hk (by omega)) ⟨vp_in_nI (by omega) (by omega), ?_⟩
    rw [nI_1, nI_clamp (by omega : k < 2 ^ 31), nI_clamp (by omega : k + 1 < 2 ^ 31)]
    unfold hF at hp
    by_cases h9 : p k = -9
    · refine br_t h9 ?_
      simp only [h9, not_true_eq_false, decide_false, Bool.false_and, Bool.false_eq_true, if_false] at hp
      exact hp
    · refine br_f h9 (sp_has (by omega) ?_)
      cases hz : bz z k with
      | true =>
        simp only [hz, Bool.not_true, Bool.and_false, Bool.false_eq_true, if_false] at hp
        exact ⟨fun _ => hp, fun q => absurd q (by decide)⟩
      | false =>
        simp only [hz, h9, not_false_eq_true, decide_true, Bool.not_false, Bool.and_true, if_true] at hp
        refine ⟨fun q => absurd rfl q, fun _ => ⟨vp_in_nI (by omega) (by omega), ?_⟩⟩
        by_cases h0 : k = 0
        · subst h0
          refine br_t (by decide) ?_
          by_cases h1 : n ≤ 1
          · simp only [if_pos h1, if_true, Nat.zero_add] at hp
            exact br_t (nI_le h1 (by omega)) hp
          · simp only [if_neg h1, if_true, Nat.zero_add] at hp
            exact br_f (nI_ge (by omega) (by omega)) ⟨vp_in_nI (by omega) (by omega), hp⟩
        · rw [show nI k - 1 = nI (k - 1) by rw [show k = (k - 1) + 1 by omega, nI_pred]; rfl, nI_clamp (by omega : k - 1 < 2 ^ 31)]
          refine br_f (by rw [← nI_0]; exact nI_ge (by omega) (by omega)) ⟨vp_in_nI (by omega) (by omega), ?_⟩
          by_cases h1 : n ≤ k + 1
          · simp only [if_pos h1, if_neg h0, if_true] at hp
            exact br_t (nI_le h1 (by omega)) hp
          · simp only [if_neg h1, if_neg h0, if_true] at hp
            exact br_f (nI_ge (by omega) (by omega)) ⟨vp_in_nI (by omega) (by omega), hp⟩
-- marks
abbrev M4 : Type := Int32 × Int32 × Int32 × Int32
def cmF (lo hi gh w : Int32) (hs : Nat → Int32) (k : Nat) (s : M4) : M4 :=
  if bz w k then (if lo ≤ hs k then (if hi < hs k then (s.1, s.2.1, s.2.2.1 + 1, s.2.2.2) else (s.1 + 1, s.2.1, s.2.2.1, s.2.2.2)) else (s.1, s.2.1 + 1, s.2.2.1, s.2.2.2))
  else (if hs k ≤ gh then (s.1, s.2.1, s.2.2.1, s.2.2.2 + 0) else (s.1, s.2.1, s.2.2.1, s.2.2.2 + 1))
def marks (n : Nat) (lo hi gh w : Int32) (hs : Nat → Int32) (s : M4) : M4 := itr (cmF lo hi gh w hs) n s
theorem sp_countMarks {n : Nat} (hn : n ≤ 8) {w lo hi gh a b c d pr : Int32} {hs : Nat → Int32} {K : Int32 → Int32 → Int32 → Int32 → Int32 → Prop}
    (hK : K (marks n lo hi gh w hs (a, b, c, d)).1 (marks n lo hi gh w hs (a, b, c, d)).2.1 (marks n lo hi gh w hs (a, b, c, d)).2.2.1 (marks n lo hi gh w hs (a, b, c, d)).2.2.2 (pr + 1)) : P_X1_countMarks w (nI n) lo hi gh a b c d pr hs K := by
  unfold P_X1_countMarks
  refine cnt_itr (σ := M4) (P := fun fu i s => P_X1_countMarks_L2 (nI n) lo hi gh hs w (fun a b c d => K a b c d (pr + 1)) fu i s.1 s.2.1 s.2.2.1 s.2.2.2) n (by omega) (cmF lo hi gh w hs) (a, b, c, d) ?_ ?_
  · intro fu
    unfold P_X1_countMarks_L2
    exact br_t (nI_le (Nat.le_refl n) (by omega)) hK
  · intro fu k s hk _ hp
    unfold P_X1_countMarks_L2
    refine br_f (nI_ge hk (by omega)) ⟨vp_in_nI (by omega) (by omega), sp_bit ?_⟩
    rw [nI_1, nI_clamp (by omega)]
    unfold cmF at hp
    cases hb : bz w k with
    | false =>
      simp only [hb, Bool.false_eq_true, if_false] at hp
      refine ⟨fun q => absurd (tb_0 hb) q, fun _ => ⟨fun q => ?_, fun q => ?_⟩⟩
      · simp only [if_pos q] at hp; exact hp
      · simp only [if_neg q] at hp; exact hp
    | true =>
      simp only [hb, if_true] at hp
      refine ⟨fun _ => ⟨fun q => ⟨fun z => ?_, fun z => ?_⟩, fun q => ?_⟩, fun q => absurd (q.symm.trans (tb_1 hb)) (by decide)⟩
      · simp only [if_pos q, if_pos z] at hp; exact hp
      · simp only [if_pos q, if_neg z] at hp; exact hp
      · simp only [if_neg q] at hp; exact hp
def mkF (lo hi gh w : Int32) (k : Nat) (r : Nat → Int32) : Nat → Int32 :=
  if bz w k then (if lo ≤ r k then (if r k ≤ hi then upd r 25 (r 25 + 1) else upd r 27 (r 27 + 1)) else upd r 26 (r 26 + 1))
  else (if r k ≤ gh then upd r 28 (r 28 + 0) else upd r 28 (r 28 + 1))
theorem tn25 : Int32.toNatClampNeg 25 = 25 := by decide
theorem tn26 : Int32.toNatClampNeg 26 = 26 := by decide
theorem tn27 : Int32.toNatClampNeg 27 = 27 := by decide
theorem tn28 : Int32.toNatClampNeg 28 = 28 := by decide
theorem tn29 : Int32.toNatClampNeg 29 = 29 := by decide
theorem tn22 : Int32.toNatClampNeg 22 = 22 := by decide
theorem tn23 : Int32.toNatClampNeg 23 = 23 := by decide
theorem tn24 : Int32.toNatClampNeg 24 = 24 := by decide
theorem tn21 : Int32.toNatClampNeg 21 = 21 := by decide
theorem tn13 : Int32.toNatClampNeg 13 = 13 := by decide
theorem tn0 : Int32.toNatClampNeg 0 = 0 := by decide
theorem tn1 : Int32.toNatClampNeg 1 = 1 := by decide
theorem tn2 : Int32.toNatClampNeg 2 = 2 := by decide
theorem sp_markOn {n : Nat} (hn : n ≤ 8) {w lo hi gh : Int32} {r : Nat → Int32} {K : (Nat → Int32) → Prop} (hK : K (itr (mkF lo hi gh w) n r)) : P_X8_markOn w (nI n) lo hi gh r K := by
  unfold P_X8_markOn
  refine cnt_itr (P := fun fu i s => P_X8_markOn_L2 (nI n) lo hi gh w (fun v => K v) fu i s) n (by omega) (mkF lo hi gh w) r ?_ ?_
  · intro fu
    unfold P_X8_markOn_L2
    exact br_t (nI_le (Nat.le_refl n) (by omega)) hK
  · intro fu k s hk _ hp
    unfold P_X8_markOn_L2
    refine br_f (nI_ge hk (by omega)) (sp_has (by omega) ?_)
    rw [nI_1, nI_clamp (by omega), tn25, tn26, tn27, tn28]
    unfold mkF at hp
    cases hb : bz w k with
    | false =>
      simp only [hb, Bool.false_eq_true, if_false] at hp
      refine ⟨fun q => absurd rfl q, fun _ => ⟨vp_in_nI (by omega) (by omega), fun q => ?_, fun q => ?_⟩⟩
      · simp only [if_pos q] at hp; exact hp
      · simp only [if_neg q] at hp; exact hp
    | true =>
      simp only [hb, if_true] at hp
      refine ⟨fun _ => ⟨vp_in_nI (by omega) (by omega), ⟨fun q => ⟨fun z => ?_, fun z => ?_⟩, fun q => ?_⟩⟩, fun q => absurd q (by decide)⟩
      · simp only [if_pos q, if_pos z] at hp; exact hp
      · simp only [if_pos q, if_neg z] at hp; exact hp
      · simp only [if_neg q] at hp; exact hp
def setM (r : Nat → Int32) (s : M4) : Nat → Int32 := fun k => if k = 25 then s.1 else if k = 26 then s.2.1 else if k = 27 then s.2.2.1 else if k = 28 then s.2.2.2 else r k
theorem marks_row (n : Nat) (hn : n ≤ 8) (lo hi gh w : Int32) (r : Nat → Int32) : itr (mkF lo hi gh w) n r = setM r (marks n lo hi gh w r (r 25, r 26, r 27, r 28)) := by
  have key : ∀ k, k ≤ n → itr (mkF lo hi gh w) k r = setM r (itr (cmF lo hi gh w r) k (r 25, r 26, r 27, r 28)) := by
    intro k
    induction k with
    | zero =>
      intro _
      funext j
      show r j = setM r (r 25, r 26, r 27, r 28) j
      unfold setM
      dsimp only
      split
      · next h => rw [h]
      · split
        · next h => rw [h]
        · split
          · next h => rw [h]
          · split
            · next h => rw [h]
            · rfl
    | succ k ih =>
      intro hk
      have hk2 := ih (by omega)
      show mkF lo hi gh w k (itr (mkF lo hi gh w) k r) = setM r (cmF lo hi gh w r k (itr (cmF lo hi gh w r) k (r 25, r 26, r 27, r 28)))
      rw [hk2]
      generalize itr (cmF lo hi gh w r) k (r 25, r 26, r 27, r 28) = t
      have hrk : setM r t k = r k := by
        unfold setM
        rw [if_neg (by omega), if_neg (by omega), if_neg (by omega), if_neg (by omega)]
      have e25 : setM r t 25 = t.1 := rfl
      have e26 : setM r t 26 = t.2.1 := rfl
      have e27 : setM r t 27 = t.2.2.1 := rfl
      have e28 : setM r t 28 = t.2.2.2 := rfl
      unfold mkF cmF
      rw [hrk, e25, e26, e27, e28]
      have fl : ∀ a b : Int32, (a ≤ b) = ¬ (b < a) := fun a b => by rw [Int32.not_lt]
      cases bz w k with
      | false =>
        simp only [Bool.false_eq_true, if_false]
        split <;> (funext j; simp only [upd, setM]; by_cases h5 : j = 25 <;> by_cases h6 : j = 26 <;> by_cases h7 : j = 27 <;> by_cases h8 : j = 28 <;> simp_all)
      | true =>
        simp only [if_true]
        by_cases hl : lo ≤ r k
        · simp only [if_pos hl]
          by_cases hh : hi < r k
          · rw [if_neg (by rw [fl]; exact fun q => q hh), if_pos hh]
            funext j; simp only [upd, setM]; by_cases h5 : j = 25 <;> by_cases h6 : j = 26 <;> by_cases h7 : j = 27 <;> by_cases h8 : j = 28 <;> simp_all
          · rw [if_pos (by rw [fl]; exact hh), if_neg hh]
            funext j; simp only [upd, setM]; by_cases h5 : j = 25 <;> by_cases h6 : j = 26 <;> by_cases h7 : j = 27 <;> by_cases h8 : j = 28 <;> simp_all
        · simp only [if_neg hl]
          funext j; simp only [upd, setM]; by_cases h5 : j = 25 <;> by_cases h6 : j = 26 <;> by_cases h7 : j = 27 <;> by_cases h8 : j = 28 <;> simp_all
  exact key n (Nat.le_refl n)
-- a line printed
def plsC (n : Nat) (fg : Nat → Int32) (w la be : Int32) (p : Nat → Int32) : Nat → Int32 := itr (fpF fg w la be) n p
theorem sp_printLine {n v : Nat} (hn : n ≤ 8) (hv : v < 256) {dd c lo hi gh la be a b d g pr : Int32} {p hs fg : Nat → Int32} {K : (Nat → Int32) → Int32 → Int32 → Int32 → Int32 → Int32 → Int32 → Int32 → (Nat → Int32) → Prop}
    (hK : ∀ h2 p2 m2, p2 = plsC n fg (nI v) la be p → h2 = heat n p2 (bz (nI v &&& (dd ^^^ (-1 : Int32)))) (cool n c hs) → m2 = marks n lo hi gh (nI v) h2 (a, b, d, g) → K p2 (nI v) la m2.1 m2.2.1 m2.2.2.1 m2.2.2.2 (pr + 1) h2) :
    P_X1_printLine (nI v) dd (nI n) c lo hi gh p la be a b d g pr hs fg K := by
  unfold P_X1_printLine
  refine sp_coolDown hn (sp_findPulses hn hv (sp_heatUp hn (sp_countMarks hn ?_)))
  exact hK _ _ _ rfl rfl rfl
def plsM (n : Nat) (r : Nat → Int32) (w : Int32) (p : Nat → Int32) : Nat → Int32 := itr (lpF r w (r 22) (r 23)) n p
def prM (n : Nat) (c lo hi gh dd w : Int32) (p r : Nat → Int32) : Nat → Int32 :=
  let r1 := cool n c r
  let p2 := plsM n r1 w p
  let r2 := heat n p2 (fun k => decide (¬ p2 k = -9) && !(bz dd k)) r1
  let r3 := setM r2 (marks n lo hi gh w r2 (r2 25, r2 26, r2 27, r2 28))
  upd (upd (upd r3 23 (r3 22)) 22 w) 29 ((upd (upd r3 23 (r3 22)) 22 w) 29 + 1)
theorem sp_printOn {n : Nat} (hn : n ≤ 8) {w c lo hi gh dd : Int32} {p r : Nat → Int32} {K : (Nat → Int32) → (Nat → Int32) → Prop} (hK : K (plsM n (cool n c r) w p) (prM n c lo hi gh dd w p r)) : P_X8_printOn w (nI n) c lo hi gh dd p r K := by
  unfold P_X8_printOn
  refine sp_coolOn hn ?_
  rw [tn22, tn23]
  refine sp_layPulses hn (sp_heatOn hn (sp_markOn hn ?_))
  rw [marks_row n hn, tn29]
  exact hK
