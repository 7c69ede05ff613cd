/-! ===== pure rows: shares of dots ===== -/
def rwd (n : Nat) (c lo hi gh : Int32) (q : Nat) (r : Nat → Int32) (dd : Int32) : Int32 := raM n c lo hi gh dd q r 25 - r 25
theorem sp_rightWithDead {n q : Nat} (hn : n ≤ 8) {dd c lo hi gh qd la be ri a b d g pr tq tl tb' tr ta tp td tg tn : Int32} {p hs fg qu th tf tu r : Nat → Int32} (hC : CR n q qd la be ri a b d g pr hs fg qu r) {K : Int32 → (Nat → Int32) → Int32 → Int32 → Int32 → Int32 → Int32 → Int32 → Int32 → Int32 → Int32 → (Nat → Int32) → (Nat → Int32) → (Nat → Int32) → Prop}
    (hK : ∀ p' a1 a2 a3 a4 a5 a6 a7 a8 a9 f1 f2 f3, K (rwd n c lo hi gh q r dd) p' a1 a2 a3 a4 a5 a6 a7 a8 a9 f1 f2 f3) :
    P_X7_rightWithDead dd (nI n) c lo hi gh p qd la be ri a b d g pr hs fg qu tq tl tb' tr ta tp td tg tn th tf tu K := by
  unfold P_X7_rightWithDead P_X5_copyFrom
  refine sp_printQueue hn (hC.cpy hn) ?_
  intro p' la' be' a' b' d' g' pr' hs' hP'
  have e : a' - a = rwd n c lo hi gh q r dd := by
    unfold rwd
    rw [hP'.2.2.2.2.1, hC.1.2.2.2.2.1]
  rw [e]
  exact hK _ _ _ _ _ _ _ _ _ _ _ _ _
/-- who is dead, where just some have come -/
def dW (n s : Nat) : Int32 := nI (2 ^ n - 1) &&& (nI s ^^^ (-1 : Int32))
theorem sp_rightWith {n q s : Nat} (hn : n ≤ 8) (hq : q ≤ 8) {c lo hi gh dd : Int32} {r t0 p : Nat → Int32} (h21 : r 21 = nI q) (hz : Z30 r) (hzt : Z30 t0) {K : Int32 → Int32 → (Nat → Int32) → (Nat → Int32) → Prop}
    (hK : ∀ t' p', Z30 t' → K (rwd n c lo hi gh q r (dW n s)) 0 t' p') : P_X8_rightWith (nI s) (nI n) c lo hi gh dd r t0 p K := by
  unfold P_X8_rightWith
  refine sp_copy ?_
  rw [cp_eq hz hzt, all_c n (by omega)]
  refine sp_rightOfAll hn hq h21 ?_
  intro p'
  exact hK _ _ (Z30.raM hn q r hq hz)
theorem one_c : ∀ n, n < 9 → ((1 : Int32) <<< (nI n &&& 31)) = nI (2 ^ n) := by decide +kernel
set_option maxRecDepth 100000 in
theorem or_c : ∀ v : Fin 256, ∀ d : Fin 8, nI v.val ||| ((1 : Int32) <<< (nI d.val &&& (31 : Int32))) = nI (v.val ||| 2 ^ d.val) := by decide +kernel
set_option maxRecDepth 100000 in
theorem an_c : ∀ v : Fin 256, ∀ d : Fin 8, decide (nI v.val &&& ((1 : Int32) <<< (nI d.val &&& (31 : Int32))) = 0) = !(bz (nI v.val) d.val) := by decide +kernel
def chkP : Bool := (List.range 9).all fun n => (List.range (2 ^ n)).all fun v => decide (pcb v ≤ n) && decide (pcb (2 ^ n - 1 - v) = n - pcb v) && decide (dW n v = nI (2 ^ n - 1 - v)) && (List.range n).all fun d => bz (nI v) d || decide (pcb v + 1 ≤ n)
set_option maxRecDepth 100000 in
theorem chkP_t : chkP = true := by decide +kernel
theorem chk_at {n v : Nat} (hn : n ≤ 8) (hv : v < 2 ^ n) : pcb v ≤ n ∧ pcb (2 ^ n - 1 - v) = n - pcb v ∧ dW n v = nI (2 ^ n - 1 - v) ∧ ∀ d, d < n → bz (nI v) d = false → pcb v + 1 ≤ n := by
  have h := chkP_t
  unfold chkP at h
  rw [List.all_eq_true] at h
  have h := h n (List.mem_range.mpr (by omega))
  rw [List.all_eq_true] at h
  have h := h v (List.mem_range.mpr hv)
  rw [Bool.and_eq_true, Bool.and_eq_true, Bool.and_eq_true, List.all_eq_true, decide_eq_true_eq, decide_eq_true_eq, decide_eq_true_eq] at h
  refine ⟨h.1.1.1, h.1.1.2, h.1.2, fun d hd hb => ?_⟩
  have h2 := h.2 d (List.mem_range.mpr hd)
  rw [hb, Bool.false_or, decide_eq_true_eq] at h2
  exact h2
theorem fw_c : ∀ n : Fin 9, ∀ j : Fin 9, j.val + 1 ≤ n.val → fac j.val * fac (n.val - 1 - j.val) ≤ 5040 := by decide +kernel
theorem fw_le {n j : Nat} (hn : n ≤ 8) (hj : j + 1 ≤ n) : fac j * fac (n - 1 - j) ≤ 5040 := fw_c ⟨n, by omega⟩ ⟨j, by omega⟩ hj
/-- the sum of what a dot brings -/
def sA (n : Nat) (w : Nat → Int) (d : Nat) : Nat → Int
  | 0 => 0
  | v + 1 => if bz (nI v) d then sA n w d v else sA n w d v + ((fac (pcb v) * fac (n - 1 - pcb v) : Nat) : Int) * (w (v ||| 2 ^ d) - w v)
theorem sA_le {n : Nat} (hn : n ≤ 8) {w : Nat → Int} (hw : ∀ s, 0 ≤ w s ∧ w s ≤ 64) {d : Nat} (hd : d < n) : ∀ m : Nat, m ≤ 2 ^ n → -(322560 * (m : Int)) ≤ sA n w d m ∧ sA n w d m ≤ 322560 * (m : Int) := by
  intro m
  induction m with
  | zero => intro _; exact ⟨Int.le_refl _, Int.le_refl _⟩
  | succ v ih =>
    intro hm
    have i1 := ih (by omega)
    show -(322560 * ((v + 1 : Nat) : Int)) ≤ (if bz (nI v) d then _ else _) ∧ (if bz (nI v) d then _ else _) ≤ _
    cases hb : bz (nI v) d with
    | true => rw [if_pos rfl]; omega
    | false =>
      rw [if_neg (by decide)]
      have hp := (chk_at hn (show v < 2 ^ n by omega)).2.2.2 d hd hb
      have hf := fw_le hn hp
      generalize fac (pcb v) * fac (n - 1 - pcb v) = W at hf ⊢
      have h1 := hw (v ||| 2 ^ d)
      have h2 := hw v
      have hx1 : w (v ||| 2 ^ d) - w v ≤ 64 := by omega
      have hx2 : -64 ≤ w (v ||| 2 ^ d) - w v := by omega
      generalize w (v ||| 2 ^ d) - w v = x at hx1 hx2 ⊢
      have hW : (W : Int) ≤ 5040 := by omega
      have hW0 : (0 : Int) ≤ (W : Int) := by omega
      have b1 : (W : Int) * x ≤ (W : Int) * 64 := Int.mul_le_mul_of_nonneg_left hx1 hW0
      have b2 : (W : Int) * (-64) ≤ (W : Int) * x := Int.mul_le_mul_of_nonneg_left hx2 hW0
      generalize (W : Int) * x = y at b1 b2 ⊢
      omega
theorem rw_k {n : Nat} (hn : n ≤ 8) {c lo hi gh : Int32} {q : Nat} (hq : q ≤ 8) {r : Nat → Int32} (dd : Int32) : 0 ≤ (rwd n c lo hi gh q r dd).toInt ∧ (rwd n c lo hi gh q r dd).toInt ≤ 64 := by
  obtain ⟨k, hk, e⟩ := ra_cnt hn c lo hi gh dd hq r
  unfold rwd
  rw [e, nI_toInt (by omega)]
  omega
def wI (n : Nat) (c lo hi gh : Int32) (q : Nat) (r : Nat → Int32) (s : Nat) : Int := (rwd n c lo hi gh q r (dW n s)).toInt
theorem i32_of (x : Int32) : x = Int32.ofInt x.toInt := (Int32.ofInt_toInt x).symm
theorem sp_shareL7 {n q d0 : Nat} (hn : n ≤ 8) (hd : d0 < n) {c lo hi gh qd la be ri a b d g pr x2 : Int32} {hs fg qu r : Nat → Int32} (hC : CR n q qd la be ri a b d g pr hs fg qu r)
    {C : Int64 → (Nat → Int32) → Int32 → Int32 → Int32 → Int32 → Int32 → Int32 → Int32 → Int32 → Int32 → (Nat → Int32) → (Nat → Int32) → (Nat → Int32) → Prop}
    (hK : ∀ p' a1 a2 a3 a4 a5 a6 a7 a8 a9 f1 f2 f3, C (Int64.ofInt (sA n (wI n c lo hi gh q r) d0 (2 ^ n))) p' a1 a2 a3 a4 a5 a6 a7 a8 a9 f1 f2 f3) :
    ∀ m v p a1 a2 a3 a4 a5 a6 a7 a8 a9 f1 f2 f3, v + m = 2 ^ n →
    P_X7_share_L32 (nI n) c lo hi gh qd la be ri a b d g pr hs fg qu x2 (nI (2 ^ n - 1)) ((1 : Int32) <<< (nI d0 &&& (31 : Int32))) C (m + 1) (Int64.ofInt (sA n (wI n c lo hi gh q r) d0 v)) (nI v) p a1 a2 a3 a4 a5 a6 a7 a8 a9 f1 f2 f3 := by
  have h8 := two_pow_8 hn
  have hp2 := pow_pos2 n
  intro m
  induction m with
  | zero =>
    intro v p a1 a2 a3 a4 a5 a6 a7 a8 a9 f1 f2 f3 hv
    unfold P_X7_share_L32
    have e : v = 2 ^ n := by omega
    subst e
    exact br_t (nI_lt (by omega) (by omega)) (hK _ _ _ _ _ _ _ _ _ _ _ _ _)
  | succ m ih =>
    intro v p a1 a2 a3 a4 a5 a6 a7 a8 a9 f1 f2 f3 hv
    unfold P_X7_share_L32
    refine br_f (nI_nlt (by omega) (by omega)) ?_
    rw [nI_1]
    have han := an_c ⟨v, by omega⟩ ⟨d0, by omega⟩
    have hor := or_c ⟨v, by omega⟩ ⟨d0, by omega⟩
    dsimp only at han hor
    have hs : sA n (wI n c lo hi gh q r) d0 (v + 1) = if bz (nI v) d0 then sA n (wI n c lo hi gh q r) d0 v else sA n (wI n c lo hi gh q r) d0 v + ((fac (pcb v) * fac (n - 1 - pcb v) : Nat) : Int) * (wI n c lo hi gh q r (v ||| 2 ^ d0) - wI n c lo hi gh q r v) := rfl
    cases hb : bz (nI v) d0 with
    | true =>
      rw [hb] at han hs
      refine ⟨fun _ => ?_, fun z => absurd z (of_decide_eq_false han)⟩
      rw [if_pos rfl] at hs
      have h := ih (v + 1) p a1 a2 a3 a4 a5 a6 a7 a8 a9 f1 f2 f3 (by omega)
      rw [hs] at h
      exact h
    | false =>
      rw [hb] at han hs
      refine ⟨fun z => absurd (of_decide_eq_true han) z, fun _ => ?_⟩
      rw [if_neg (by decide)] at hs
      have hp := (chk_at hn (show v < 2 ^ n by omega)).2.2.2 d0 hd hb
      rw [hor]
      refine sp_rightWithDead hn hC ?_
      intro p1 b1 b2 b3 b4 b5 b6 b7 b8 b9 g1 g2 g3
      refine sp_rightWithDead hn hC ?_
      intro p2 c1 c2 c3 c4 c5 c6 c7 c8 c9 i1 i2 i3
      refine sp_bitCount (by omega) (sp_orders hn hp ?_)
      have h := ih (v + 1) p2 c1 c2 c3 c4 c5 c6 c7 c8 c9 i1 i2 i3 (by omega)
      rw [hs, Int64.ofInt_add, Int64.ofInt_mul, Int64.mul_comm] at h
      have e1 : Int32.toInt64 (rwd n c lo hi gh q r (nI (2 ^ n - 1) &&& (nI (v ||| 2 ^ d0) ^^^ (-1 : Int32))) - rwd n c lo hi gh q r (nI (2 ^ n - 1) &&& (nI v ^^^ (-1 : Int32)))) = Int64.ofInt (wI n c lo hi gh q r (v ||| 2 ^ d0) - wI n c lo hi gh q r v) := by
        have k1 := rw_k (c := c) (lo := lo) (hi := hi) (gh := gh) (r := r) hn hC.2.2.1 (dW n (v ||| 2 ^ d0))
        have k2 := rw_k (c := c) (lo := lo) (hi := hi) (gh := gh) (r := r) hn hC.2.2.1 (dW n v)
        rw [i32_of (rwd n c lo hi gh q r (nI (2 ^ n - 1) &&& (nI (v ||| 2 ^ d0) ^^^ (-1 : Int32)))), i32_of (rwd n c lo hi gh q r (nI (2 ^ n - 1) &&& (nI v ^^^ (-1 : Int32)))), ← Int32.ofInt_sub]
        refine Int32.toInt64_ofInt ?_ ?_
        · rw [i32_min]; unfold dW at k1 k2; omega
        · rw [i32_max]; unfold dW at k1 k2; omega
      rw [e1, lN_ofInt]
      exact h
theorem sp_share7 {n q d0 : Nat} (hn : n ≤ 8) (hd : d0 < n) {u c lo hi gh qd la be ri a b d g pr tq tl tb' tr ta tp td tg tn : Int32} {p hs fg qu th tf tu r : Nat → Int32} (hC : CR n q qd la be ri a b d g pr hs fg qu r) {K : Int32 → (Nat → Int32) → Int32 → Int32 → Int32 → Int32 → Int32 → Int32 → Int32 → Int32 → Int32 → (Nat → Int32) → (Nat → Int32) → (Nat → Int32) → Prop}
    (hK : ∀ p' a1 a2 a3 a4 a5 a6 a7 a8 a9 f1 f2 f3, K (frV (sA n (wI n c lo hi gh q r) d0 (2 ^ n)) (fac n) u) p' a1 a2 a3 a4 a5 a6 a7 a8 a9 f1 f2 f3) :
    P_X7_share (nI d0) u (nI n) c lo hi gh p qd la be ri a b d g pr hs fg qu tq tl tb' tr ta tp td tg tn th tf tu K := by
  unfold P_X7_share
  refine sp_hasDotOn hn hd (if10' ?_)
  unfold P_X1_allDots
  rw [all_c n (by omega)]
  refine ⟨2 ^ n + 1, sp_shareL7 hn hd hC ?_ (2 ^ n) 0 _ _ _ _ _ _ _ _ _ _ _ _ _ (by omega)⟩
  intro p' a1 a2 a3 a4 a5 a6 a7 a8 a9 f1 f2 f3
  have h8 := two_pow_8 hn
  have hb := sA_le hn (w := wI n c lo hi gh q r) (fun s => rw_k hn hC.2.2.1 _) hd (2 ^ n) (Nat.le_refl _)
  have f1' := fac_pos hn
  have f2' := fac_le hn
  refine ⟨vp_in_nI (by omega) (by omega), ?_⟩
  rw [nI_clamp (by omega), fc_e hn, nI_l (by omega)]
  refine sp_told (by omega) (by omega) f1' (by omega) (hK _ _ _ _ _ _ _ _ _ _ _ _ _)
theorem sp_shareL12 {n q : Nat} (hn : n ≤ 8) (hq : q ≤ 8) {c lo hi gh x1 x2 : Int32} {r : Nat → Int32} (h21 : r 21 = nI q) (hz : Z30 r) {C : Int32 → (Nat → Int32) → (Nat → Int32) → (Nat → Int32) → Prop}
    (hK : ∀ t p w, Z30 t → (∀ s, s < 2 ^ n → w s = rwd n c lo hi gh q r (dW n s)) → C 0 t p w) :
    ∀ m v t p w, v + m = 2 ^ n → Z30 t → (∀ s, s < v → w s = rwd n c lo hi gh q r (dW n s)) → P_X8_share_L12 (nI n) c lo hi gh r x1 x2 C (m + 1) (nI v) 0 t p w := by
  have h8 := two_pow_8 hn
  intro m
  induction m with
  | zero =>
    intro v t p w hv hzt hw
    unfold P_X8_share_L12
    rw [one_c n (by omega)]
    have e : v = 2 ^ n := by omega
    subst e
    exact br_t (nI_le (Nat.le_refl _) (by omega)) (hK _ _ _ hzt hw)
  | succ m ih =>
    intro v t p w hv hzt hw
    unfold P_X8_share_L12
    rw [one_c n (by omega)]
    refine br_f (nI_ge (by omega) (by omega)) (sp_rightWith hn hq h21 hz hzt ?_)
    intro t' p' hz'
    refine ⟨vp_in_nI (by omega) (by omega), ?_⟩
    rw [nI_1, nI_clamp (by omega)]
    refine ih (v + 1) t' p' _ (by omega) hz' (fun s hs => ?_)
    rw [upd_at]
    by_cases h : s = v
    · subst h; rw [if_pos rfl]
    · rw [if_neg h]; exact hw s (by omega)
theorem sp_shareL44 {n q d0 : Nat} (hn : n ≤ 8) (hd : d0 < n) {c lo hi gh x2 : Int32} {r w : Nat → Int32} (hw : ∀ s, s < 2 ^ n → w s = rwd n c lo hi gh q r (dW n s)) {C : Int32 → Prop}
    (hK : C (Int32.ofInt (sA n (wI n c lo hi gh q r) d0 (2 ^ n)))) :
    ∀ m v, v + m = 2 ^ n → P_X8_share_L44 (nI n) w (nI d0) x2 C (m + 1) (Int32.ofInt (sA n (wI n c lo hi gh q r) d0 v)) (nI v) := by
  have h8 := two_pow_8 hn
  intro m
  induction m with
  | zero =>
    intro v hv
    unfold P_X8_share_L44
    rw [one_c n (by omega)]
    have e : v = 2 ^ n := by omega
    subst e
    exact br_t (nI_le (Nat.le_refl _) (by omega)) hK
  | succ m ih =>
    intro v hv
    unfold P_X8_share_L44
    rw [one_c n (by omega)]
    refine br_f (nI_ge (by omega) (by omega)) (sp_has (by omega) ?_)
    rw [nI_1]
    have hor := or_c ⟨v, by omega⟩ ⟨d0, by omega⟩
    dsimp only at hor
    have hs : sA n (wI n c lo hi gh q r) d0 (v + 1) = if bz (nI v) d0 then sA n (wI n c lo hi gh q r) d0 v else sA n (wI n c lo hi gh q r) d0 v + ((fac (pcb v) * fac (n - 1 - pcb v) : Nat) : Int) * (wI n c lo hi gh q r (v ||| 2 ^ d0) - wI n c lo hi gh q r v) := rfl
    have h := ih (v + 1) (by omega)
    cases hb : bz (nI v) d0 with
    | true =>
      rw [hb, if_pos rfl] at hs
      rw [hs] at h
      exact if10' h
    | false =>
      rw [hb, if_neg (by decide)] at hs
      have hp := (chk_at hn (show v < 2 ^ n by omega)).2.2.2 d0 hd hb
      have hlt : v ||| 2 ^ d0 < 2 ^ n := Nat.or_lt_two_pow (by omega) (Nat.pow_lt_pow_right (by decide) hd)
      refine if00' (sp_ones (by omega) (sp_factorial (by omega) ?_))
      rw [show (1 : Int32) = nI 1 from rfl, pk_sub (by omega), pk_sub (by omega)]
      refine sp_factorial (by omega) ?_
      rw [show nI 1 = (1 : Int32) from rfl, hor, nI_clamp (by omega : v < 2 ^ 31), nI_clamp (by omega : v ||| 2 ^ d0 < 2 ^ 31)]
      refine ⟨vp_in_nI (by omega) (by omega), vp_in_nI (by omega) (by omega), ?_⟩
      rw [hw _ hlt, hw v (by omega), pk_mul, nI_ofInt (fac (pcb v) * fac (n - 1 - pcb v)), i32_of (rwd n c lo hi gh q r (dW n (v ||| 2 ^ d0))), i32_of (rwd n c lo hi gh q r (dW n v)), ← Int32.ofInt_sub, ← Int32.ofInt_mul, ← Int32.ofInt_add]
      rw [hs] at h
      exact h
theorem sp_share8 {n q d0 : Nat} (h1 : 1 ≤ n) (hn : n ≤ 8) (hd : d0 < n) (hq : q ≤ 8) {u c lo hi gh : Int32} {r t0 p w : Nat → Int32} (h21 : r 21 = nI q) (hz : Z30 r) (hzt : Z30 t0) {K : Int32 → Int32 → (Nat → Int32) → (Nat → Int32) → (Nat → Int32) → Prop}
    (hK : ∀ t' p' w', Z30 t' → K (frV (sA n (wI n c lo hi gh q r) d0 (2 ^ n)) (fac n) u) 0 t' p' w') : P_X8_share (nI d0) u (nI n) c lo hi gh 0 r t0 p w K := by
  unfold P_X8_share
  refine sp_isDotOn h1 hn hd (if10' ⟨2 ^ n + 1, sp_shareL12 hn hq h21 hz ?_ (2 ^ n) 0 _ _ _ (by omega) hzt (fun s hs => absurd hs (by omega))⟩)
  intro t' p' w' hz' hw
  refine ⟨2 ^ n + 1, sp_shareL44 hn hd hw ?_ (2 ^ n) 0 (by omega)⟩
  have h8 := two_pow_8 hn
  have hb := sA_le hn (w := wI n c lo hi gh q r) (fun s => rw_k hn hq _) hd (2 ^ n) (Nat.le_refl _)
  have f1' := fac_pos hn
  have f2' := fac_le hn
  exact sp_factorial hn (sp_fraction (by omega) (by omega) f1' (by omega) (hK _ _ _ hz'))
theorem rt_share {L n q : Nat} (h1 : 1 ≤ n) (hn : n ≤ 8) {xs : Nat → Int32} {x3 c lo hi gh qd la be ri a b d g pr tq tl tb' tr ta tp td tg tn : Int32} {p hs fg qu th tf tu r mt' mp mw : Nat → Int32} {N : (Nat → Int32) → Int32 → Int32 → Int32 → Int32 → Int32 → Int32 → Int32 → Int32 → Int32 → (Nat → Int32) → (Nat → Int32) → (Nat → Int32) → Int32 → (Nat → Int32) → (Nat → Int32) → (Nat → Int32) → Prop}
    (hb1 : vp_in (x3 + 1) L) (hb2 : vp_in (x3 + 2) L) (hC : CR n q qd la be ri a b d g pr hs fg qu r) (hz : Z30 r) (hzt : Z30 mt')
    (hN : ∀ p' a1 a2 a3 a4 a5 a6 a7 a8 a9 f1 f2 f3 t' mp' mw', Z30 t' → N p' a1 a2 a3 a4 a5 a6 a7 a8 a9 f1 f2 f3 0 t' mp' mw') :
    P_T642 L xs x3 (nI n) c lo hi gh p qd la be ri a b d g pr hs fg qu tq tl tb' tr ta tp td tg tn th tf tu (nI n) c lo hi gh 0 r mt' mp mw N := by
  unfold P_T642
  refine ⟨hb1, hb2, ?_⟩
  generalize xs (Int32.toNatClampNeg (x3 + 1)) = z1
  generalize xs (Int32.toNatClampNeg (x3 + 2)) = z2
  have hNR := hN p tq tl tb' tr ta tp td tg tn th tf tu mt' mp mw hzt
  have both : ∀ u : Int32, P_X7_share z1 u (nI n) c lo hi gh p qd la be ri a b d g pr hs fg qu tq tl tb' tr ta tp td tg tn th tf tu (fun r7 p1 a1 a2 a3 a4 a5 a6 a7 a8 a9 f1 f2 f3 => P_X8_share z1 u (nI n) c lo hi gh 0 r mt' mp mw (fun r8 d1 t1 p2 w1 => ((r7 = r8 → N p1 a1 a2 a3 a4 a5 a6 a7 a8 a9 f1 f2 f3 d1 t1 p2 w1) ∧ (¬ r7 = r8 → False)))) := by
    intro u
    rcases on_off z1 (n := n) (by omega) with h | ⟨j, hj, rfl⟩
    · unfold P_X7_share
      refine sp_hasDotOff h (if00' ?_)
      unfold P_X8_share
      exact sp_isDotOff h1 hn h (if00' (eqN hNR))
    · refine sp_share7 hn hj hC ?_
      intro p' a1 a2 a3 a4 a5 a6 a7 a8 a9 f1 f2 f3
      exact sp_share8 h1 hn hj hC.2.2.1 hC.2.2.2.1 hz hzt (fun t' p'' w' hz' => eqN (hN _ _ _ _ _ _ _ _ _ _ _ _ _ _ _ _ hz'))
  by_cases hz2 : z2 = 0
  · refine br_t hz2 ?_
    have := both 0
    simp only [hz2, true_imp_iff, not_true_eq_false, false_imp_iff, and_true] at this ⊢
    exact this
  · refine br_f hz2 ?_
    have := both 1
    simp only [hz2, not_false_eq_true, true_imp_iff, false_imp_iff, true_and] at this ⊢
    exact this
