/-! ===== pure rows: how long lines take, how fast the motor runs ===== -/
def laA (qu : Nat → Int32) (la : Int32) (i : Nat) : Int32 := if i = 0 then la else qu (i - 1)
def beA (qu : Nat → Int32) (la be : Int32) (i : Nat) : Int32 := if i = 0 then be else if i = 1 then la else qu (i - 2)
theorem beA_s (qu : Nat → Int32) (la be : Int32) (i : Nat) : beA qu la be (i + 1) = laA qu la i := by
  unfold beA laA
  by_cases h : i = 0
  · subst h; rfl
  · rw [if_neg (by omega), if_neg (by omega), if_neg h, show i + 1 - 2 = i - 1 by omega]
def hit (fg : Nat → Int32) (w la be : Int32) (P d : Nat) : Bool := bz w d && decide (fg (nr w la be d) = nI P)
theorem hit_iff {fg : Nat → Int32} {w la be : Int32} {P d : Nat} : hit fg w la be P d = true ↔ bz w d = true ∧ fg (nr w la be d) = nI P := by
  unfold hit
  rw [Bool.and_eq_true, decide_eq_true_iff]
def tmA (n pw : Nat) (fg qu : Nat → Int32) (la be : Int32) (i : Nat) : Nat := tm n pw (hit fg (qu i) (laA qu la i) (beA qu la be i))
theorem sp_findTimes {n pw q : Nat} (hn : n ≤ 8) (hp1 : 1 ≤ pw) (hp8 : pw ≤ 8) (hq : q ≤ 8) {la be : Int32} {ti p fg qu : Nat → Int32} (hqu : ∀ i, i < q → ∃ v, v < 256 ∧ qu i = nI v) {K : (Nat → Int32) → (Nat → Int32) → Prop}
    (hK : ∀ t' p', (∀ i, i < q → t' i = nI (tmA n pw fg qu la be i)) → K t' p') : P_X2_findTimes ti (nI n) (nI pw) p (nI q) la be fg qu K := by
  unfold P_X2_findTimes
  have key : ∀ m k, k + m = q → ∀ ti p, (∀ i, i < k → ti i = nI (tmA n pw fg qu la be i)) → P_X2_findTimes_L14 (nI n) (nI pw) (nI q) fg qu (fun a b => K a b) (m + 1) (laA qu la k) (beA qu la be k) (nI k) ti p := by
    intro m
    induction m with
    | zero =>
      intro k hk ti p hi
      unfold P_X2_findTimes_L14
      have e : k = q := by omega
      subst e
      exact br_t (nI_le (Nat.le_refl _) (by omega)) (hK _ _ hi)
    | succ m ih =>
      intro k hk ti p hi
      unfold P_X2_findTimes_L14
      refine br_f (nI_ge (by omega) (by omega)) ⟨vp_in_nI (by omega) (by omega), ?_⟩
      rw [nI_clamp (by omega : k < 2 ^ 31), nI_1]
      obtain ⟨v, hv, ev⟩ := hqu k (by omega)
      have ih' := ih (k + 1) (by omega)
      rw [beA_s, show laA qu la (k + 1) = qu k from rfl] at ih'
      rw [ev] at ih' ⊢
      refine sp_findPulses hn hv (sp_timeOf (h := hit fg (nI v) (laA qu la k) (beA qu la be k)) hn hp1 hp8 (fun d P hd hP => ?_) (ih' _ _ ?_))
      · rw [pf_at d hd, hit_iff]
        constructor
        · rintro ⟨h1, h2⟩
          exact ⟨h1, by rw [if_pos h1]; exact h2⟩
        · rintro ⟨h1, h2⟩
          rw [if_pos h1] at h2
          exact ⟨h1, h2⟩
      · intro i hi'
        rw [upd_at]
        by_cases h : i = k
        · subst h
          rw [if_pos rfl]
          unfold tmA
          rw [ev]
        · rw [if_neg h]; exact hi i (by omega)
  exact ⟨q + 1, key q 0 (by omega) ti p (fun i hi => absurd hi (by omega))⟩
theorem sp_layTime {n pw : Nat} (hn : n ≤ 8) (hp1 : 1 ≤ pw) (hp8 : pw ≤ 8) {w la be : Int32} {p r fg : Nat → Int32} (hfg : ∀ i, i < 5 → fg i = r (8 + i)) {K : Int32 → (Nat → Int32) → Prop}
    (hK : ∀ p', K (nI (tm n pw (hit fg w la be))) p') : P_X8_layPulses w la be (nI n) p r (fun p2 => P_X8_timeNow (nI n) (nI pw) p2 (fun r3 => K r3 p2)) := by
  refine sp_layPulses hn (sp_timeNow (h := hit fg w la be) hn hp1 hp8 (fun d P hd hP => ?_) (hK _))
  rw [pl_at d hd, hit_iff, hfg (nr w la be d) (by have := nr_le w la be d; omega)]
  constructor
  · rintro ⟨h1, h2⟩
    rw [if_pos h1]; exact h2
  · intro h2
    cases hb : bz w d with
    | true => rw [hb, if_pos rfl] at h2; exact ⟨rfl, h2⟩
    | false =>
      rw [hb, if_neg (by decide)] at h2
      have h3 := congrArg Int32.toInt h2
      rw [nI_toInt (by omega)] at h3
      have h4 : (-9 : Int32).toInt = -9 := by decide
      omega
theorem sp_timeOf8 {n pw q i : Nat} (hn : n ≤ 8) (hp1 : 1 ≤ pw) (hp8 : pw ≤ 8) (hi : i < q) {qd la be ri a b d g pr : Int32} {hs fg qu r p : Nat → Int32} (hC : CR n q qd la be ri a b d g pr hs fg qu r) {K : Int32 → (Nat → Int32) → Prop}
    (hK : ∀ p', K (nI (tmA n pw fg qu la be i)) p') : P_X8_timeOf (nI i) (nI n) (nI pw) r p K := by
  obtain ⟨⟨p1, hfg, e22, e23, p5, p6, p7, p8, p9⟩, eqd, hq8, e21, hqu, e24, hri, hz, hF⟩ := hC
  have hw : ∀ j, j < q → r (13 + j) = qu j := fun j hj => (hqu j hj).1.symm
  unfold P_X8_timeOf
  unfold tmA laA beA at hK
  rw [show (13 : Int32) = nI 13 from rfl, nI_add, tn22, tn23, nI_clamp (by omega : 13 + i < 2 ^ 31), e22, e23, hw i hi]
  by_cases h0 : i = 0
  · subst h0
    exact br_t (by decide) (br_t (by decide) (br_f' (by decide) ⟨vp_in_nI (by omega) (by omega), sp_layTime hn hp1 hp8 hfg hK⟩))
  · have e1 : nI (13 + i) - 1 = nI (13 + (i - 1)) := by rw [show 13 + i = (13 + (i - 1)) + 1 by omega, nI_pred]
    rw [if_neg h0] at hK
    refine br_f (nI_nle (by omega) (by omega)) ?_
    rw [e1, nI_clamp (by omega : 13 + (i - 1) < 2 ^ 31), hw (i - 1) (by omega)]
    refine ⟨vp_in_nI (by omega) (by omega), ?_⟩
    by_cases h1 : i = 1
    · subst h1
      exact br_t (by decide) (br_t' rfl ⟨vp_in_nI (by omega) (by omega), sp_layTime hn hp1 hp8 hfg hK⟩)
    · rw [if_neg h0, if_neg h1] at hK
      refine br_f (by rw [show (1 : Int32) = nI 1 from rfl]; exact nI_ge (by omega) (by omega)) ?_
      have e2 : nI (13 + i) - 2 = nI (13 + (i - 2)) := by rw [show (2 : Int32) = nI 2 from rfl, pk_sub (by omega), show 13 + i - 2 = 13 + (i - 2) by omega]
      rw [e2, nI_clamp (by omega : 13 + (i - 2) < 2 ^ 31), hw (i - 2) (by omega)]
      exact ⟨vp_in_nI (by omega) (by omega), vp_in_nI (by omega) (by omega), sp_layTime hn hp1 hp8 hfg hK⟩
/-- the most speed of a time -/
def ms (t : Nat) : Nat := if 9 - t / 9 ≤ 1 then 1 else 9 - t / 9
theorem ms_b (t : Nat) : 1 ≤ ms t ∧ ms t ≤ 9 := by
  unfold ms
  by_cases h : 9 - t / 9 ≤ 1
  · rw [if_pos h]; omega
  · rw [if_neg h]; omega
theorem ms_c : ∀ u : Fin 81, (if (1 : Int32) < (9 : Int32) - nI u.val then (9 : Int32) - nI u.val else 1) = nI (if 9 - u.val ≤ 1 then 1 else 9 - u.val) := by decide +kernel
theorem sp_mostAt {t : Nat} (ht : t ≤ 720) {K : Int32 → Prop} (hK : K (nI (ms t))) : P_X2_mostAt (nI t) K := by
  unfold P_X2_mostAt
  rw [show (9 : Int32) = nI 9 from rfl, pk_div (by omega) (by omega) (by omega), show nI 9 = (9 : Int32) from rfl, ms_c ⟨t / 9, by omega⟩]
  exact hK
theorem sp_mostOf8 {n pw q i : Nat} (hn : n ≤ 8) (hp1 : 1 ≤ pw) (hp8 : pw ≤ 8) (hi : i < q) {qd la be ri a b d g pr : Int32} {hs fg qu r p : Nat → Int32} (hC : CR n q qd la be ri a b d g pr hs fg qu r) {K : Int32 → (Nat → Int32) → Prop}
    (hK : ∀ p', K (nI (ms (tmA n pw fg qu la be i))) p') : P_X8_mostOf (nI i) (nI n) (nI pw) r p K := by
  unfold P_X8_mostOf
  refine sp_timeOf8 hn hp1 hp8 hi hC (fun p' => ?_)
  have ht : tmA n pw fg qu la be i ≤ 720 := tm_le hn _
  have h := hK p'
  generalize tmA n pw fg qu la be i = t at ht h ⊢
  have hc := ms_c ⟨t / 9, by omega⟩
  dsimp only at hc
  have hd : nI t / (9 : Int32) = nI (t / 9) := by rw [show (9 : Int32) = nI 9 from rfl, pk_div (by omega) (by omega) (by omega)]
  rw [hd]
  unfold ms at h
  rw [← hc] at h
  refine ⟨fun z => ?_, fun z => ?_⟩
  · rw [if_neg (Int32.not_lt.mpr z)] at h; exact h
  · rw [if_pos (Int32.not_le.mp z)] at h; exact h
/-- speeds forth and back -/
def fw (m : Nat → Nat) : Nat → Nat
  | 0 => 0
  | i + 1 => if m i < fw m i + 1 then m i else fw m i + 1
def bw (q : Nat) (m : Nat → Nat) : Nat → Nat
  | 0 => 0
  | j + 1 => if fw m (q - j) < bw q m j + 1 then fw m (q - j) else bw q m j + 1
theorem fw_b {m : Nat → Nat} (hm : ∀ i, 1 ≤ m i ∧ m i ≤ 9) : ∀ i, fw m i ≤ 9 ∧ 1 ≤ fw m (i + 1) := by
  have h9 : ∀ i, fw m i ≤ 9 := by
    intro i
    cases i with
    | zero => exact Nat.zero_le _
    | succ i =>
      show (if m i < fw m i + 1 then m i else fw m i + 1) ≤ 9
      have := hm i
      by_cases h : m i < fw m i + 1
      · rw [if_pos h]; omega
      · rw [if_neg h]; omega
  intro i
  refine ⟨h9 i, ?_⟩
  show 1 ≤ (if m i < fw m i + 1 then m i else fw m i + 1)
  have := hm i
  by_cases h : m i < fw m i + 1
  · rw [if_pos h]; omega
  · rw [if_neg h]; omega
theorem bw_b {q : Nat} {m : Nat → Nat} (hm : ∀ i, 1 ≤ m i ∧ m i ≤ 9) : ∀ j, bw q m j ≤ j ∧ (j < q → 1 ≤ bw q m (j + 1)) := by
  have h8 : ∀ j, bw q m j ≤ j := by
    intro j
    induction j with
    | zero => exact Nat.le_refl _
    | succ j ih =>
      show (if fw m (q - j) < bw q m j + 1 then fw m (q - j) else bw q m j + 1) ≤ j + 1
      by_cases h : fw m (q - j) < bw q m j + 1
      · rw [if_pos h]; omega
      · rw [if_neg h]; omega
  intro j
  refine ⟨h8 j, fun hj => ?_⟩
  show 1 ≤ (if fw m (q - j) < bw q m j + 1 then fw m (q - j) else bw q m j + 1)
  have h1 := (fw_b hm (q - j - 1)).2
  rw [show q - j - 1 + 1 = q - j by omega] at h1
  by_cases h : fw m (q - j) < bw q m j + 1
  · rw [if_pos h]; exact h1
  · rw [if_neg h]; omega
theorem nI_if {a b : Nat} (ha : a < 2 ^ 31) (hb : b < 2 ^ 31) : (if nI a < nI b then nI a else nI b) = nI (if a < b then a else b) := by
  by_cases h : a < b
  · rw [if_pos h, if_pos (nI_lt h hb)]
  · rw [if_neg h, if_neg (nI_nlt (by omega) ha)]
theorem m1_sub (x : Int32) : x + (-1 : Int32) = x - 1 := by rw [Int32.sub_eq_add_neg]
def mA (n pw : Nat) (fg qu : Nat → Int32) (la be : Int32) (i : Nat) : Nat := ms (tmA n pw fg qu la be i)
theorem mA_b {n pw : Nat} {fg qu : Nat → Int32} {la be : Int32} : ∀ i, 1 ≤ mA n pw fg qu la be i ∧ mA n pw fg qu la be i ≤ 9 := fun _ => ms_b _
theorem sp_plan {n pw q : Nat} (hn : n ≤ 8) (hp1 : 1 ≤ pw) (hp8 : pw ≤ 8) (hq : q ≤ 8) {la be : Int32} {ti sp p fg qu : Nat → Int32} (hqu : ∀ i, i < q → ∃ v, v < 256 ∧ qu i = nI v) {K : (Nat → Int32) → (Nat → Int32) → (Nat → Int32) → Prop}
    (hK : ∀ t' s' p', (∀ i, i < q → t' i = nI (tmA n pw fg qu la be i)) → (∀ i, i < q → s' i = nI (bw q (mA n pw fg qu la be) (q - i))) → K t' s' p') : P_X2_plan ti sp (nI n) (nI pw) p (nI q) la be fg qu K := by
  unfold P_X2_plan
  refine sp_findTimes hn hp1 hp8 hq hqu (fun t' p' ht => ?_)
  have hm := mA_b (n := n) (pw := pw) (fg := fg) (qu := qu) (la := la) (be := be)
  have back : ∀ k, k ≤ q → ∀ s, (∀ i, i < k → s i = nI (fw (mA n pw fg qu la be) (i + 1))) → (∀ i, k ≤ i → i < q → s i = nI (bw q (mA n pw fg qu la be) (q - i))) → P_X2_plan_L61 (fun s10 => K t' s10 p') (k + 1) (nI (bw q (mA n pw fg qu la be) (q - k))) (nI k - 1) s := by
    intro k
    induction k with
    | zero =>
      intro hk s h1 h2
      unfold P_X2_plan_L61
      exact br_t (by decide) (hK _ _ _ ht (fun i hi => h2 i (by omega) hi))
    | succ k ih =>
      intro hk s h1 h2
      unfold P_X2_plan_L61
      rw [nI_pred]
      refine br_f (nI_pos (by omega)) ⟨vp_in_nI (by omega) (by omega), ?_⟩
      have hb := (bw_b (q := q) hm (q - (k + 1))).1
      have hf := (fw_b hm (k + 1)).1
      rw [nI_clamp (by omega : k < 2 ^ 31), h1 k (by omega), nI_1, nI_if (by omega) (by omega), m1_sub]
      have e : (if fw (mA n pw fg qu la be) (k + 1) < bw q (mA n pw fg qu la be) (q - (k + 1)) + 1 then fw (mA n pw fg qu la be) (k + 1) else bw q (mA n pw fg qu la be) (q - (k + 1)) + 1) = bw q (mA n pw fg qu la be) (q - k) := by
        rw [show q - k = (q - (k + 1)) + 1 by omega]
        show _ = (if fw (mA n pw fg qu la be) (q - (q - (k + 1))) < bw q (mA n pw fg qu la be) (q - (k + 1)) + 1 then fw (mA n pw fg qu la be) (q - (q - (k + 1))) else bw q (mA n pw fg qu la be) (q - (k + 1)) + 1)
        rw [show q - (q - (k + 1)) = k + 1 by omega]
      rw [e]
      refine ih (by omega) _ (fun i hi => ?_) (fun i hi hi2 => ?_)
      · rw [upd_at, if_neg (by omega)]; exact h1 i (by omega)
      · rw [upd_at]
        by_cases h : i = k
        · rw [if_pos h, h]
        · rw [if_neg h]; exact h2 i (by omega) hi2
  have forth : ∀ m k, k + m = q → ∀ s, (∀ i, i < k → s i = nI (fw (mA n pw fg qu la be) (i + 1))) → P_X2_plan_L11 t' (nI q) (fun s7 => (∃ ne : Nat, P_X2_plan_L61 (fun s10 => K t' s10 p') ne (0 : Int32) (nI q - 1) s7)) (m + 1) (nI (fw (mA n pw fg qu la be) k)) (nI k) s := by
    intro m
    induction m with
    | zero =>
      intro k hk s h1
      unfold P_X2_plan_L11
      have e : k = q := by omega
      subst e
      refine br_t (nI_le (Nat.le_refl _) (by omega)) ⟨k + 1, ?_⟩
      have h := back k (Nat.le_refl k) s h1 (fun i hi hi2 => absurd hi2 (by omega))
      rw [Nat.sub_self] at h
      exact h
    | succ m ih =>
      intro k hk s h1
      unfold P_X2_plan_L11
      refine br_f (nI_ge (by omega) (by omega)) ⟨vp_in_nI (by omega) (by omega), ?_⟩
      rw [nI_clamp (by omega : k < 2 ^ 31), ht k (by omega), nI_1, nI_1]
      refine sp_mostAt (tm_le hn _) ?_
      have hf := (fw_b hm k).1
      have hmk := hm k
      show P_X2_plan_L11 t' (nI q) _ (m + 1) (if nI (mA n pw fg qu la be k) < nI (fw (mA n pw fg qu la be) k + 1) then nI (mA n pw fg qu la be k) else nI (fw (mA n pw fg qu la be) k + 1)) (nI (k + 1)) (upd s k (if nI (mA n pw fg qu la be k) < nI (fw (mA n pw fg qu la be) k + 1) then nI (mA n pw fg qu la be k) else nI (fw (mA n pw fg qu la be) k + 1)))
      rw [nI_if (by omega) (by omega)]
      refine ih (k + 1) (by omega) _ (fun i hi => ?_)
      rw [upd_at]
      by_cases h : i = k
      · rw [if_pos h, h]; rfl
      · rw [if_neg h]; exact h1 i (by omega)
  exact ⟨q + 1, forth q 0 (by omega) sp (fun i hi => absurd hi (by omega))⟩
theorem sp_laySpeeds {n pw q : Nat} (hn : n ≤ 8) (hp1 : 1 ≤ pw) (hp8 : pw ≤ 8) {qd la be ri a b d g pr : Int32} {hs fg qu r p mo sp : Nat → Int32} (hC : CR n q qd la be ri a b d g pr hs fg qu r) {K : (Nat → Int32) → (Nat → Int32) → (Nat → Int32) → Prop}
    (hK : ∀ p' m' s', (∀ i, i < q → s' i = nI (bw q (mA n pw fg qu la be) (q - i))) → K p' m' s') : P_X8_laySpeeds (nI n) (nI pw) r p mo sp K := by
  unfold P_X8_laySpeeds
  have hq : q ≤ 8 := hC.2.2.1
  rw [tn21, hC.2.2.2.1]
  have hm := mA_b (n := n) (pw := pw) (fg := fg) (qu := qu) (la := la) (be := be)
  have back : ∀ p' m' k, k ≤ q → ∀ s, (∀ i, i < k → s i = nI (fw (mA n pw fg qu la be) (i + 1))) → (∀ i, k ≤ i → i < q → s i = nI (bw q (mA n pw fg qu la be) (q - i))) → P_X8_laySpeeds_L81 (nI q) (fun s18 => K p' m' s18) (k + 1) (nI k - 1) s := by
    intro p' m' k
    induction k with
    | zero =>
      intro hk s h1 h2
      unfold P_X8_laySpeeds_L81
      exact br_t (by decide) (hK _ _ _ (fun i hi => h2 i (by omega) hi))
    | succ k ih =>
      intro hk s h1 h2
      unfold P_X8_laySpeeds_L81
      have hb := (bw_b (q := q) hm (q - (k + 1))).1
      have hf := (fw_b hm (k + 1)).1
      have hf1 := (fw_b hm k).2
      obtain ⟨Q, rfl⟩ : ∃ Q, q = Q + 1 := ⟨q - 1, by omega⟩
      rw [nI_pred, nI_pred, m1_sub, nI_1]
      refine br_f (nI_pos (by omega)) ?_
      have go : ∀ x : Nat, x = bw (Q + 1) (mA n pw fg qu la be) (Q + 1 - k) → P_X8_laySpeeds_L81 (nI (Q + 1)) (fun s18 => K p' m' s18) (k + 1) (nI k - 1) (upd s k (nI x)) := by
        intro x hx
        refine ih (by omega) _ (fun i hi => ?_) (fun i hi hi2 => ?_)
        · rw [upd_at, if_neg (by omega)]; exact h1 i (by omega)
        · rw [upd_at]
          by_cases h : i = k
          · rw [if_pos h, h, hx]
          · rw [if_neg h]; exact h2 i (by omega) hi2
      have e : bw (Q + 1) (mA n pw fg qu la be) (Q + 1 - k) = if fw (mA n pw fg qu la be) (k + 1) < bw (Q + 1) (mA n pw fg qu la be) (Q + 1 - (k + 1)) + 1 then fw (mA n pw fg qu la be) (k + 1) else bw (Q + 1) (mA n pw fg qu la be) (Q + 1 - (k + 1)) + 1 := by
        rw [show Q + 1 - k = (Q + 1 - (k + 1)) + 1 by omega]
        show (if fw (mA n pw fg qu la be) (Q + 1 - (Q + 1 - (k + 1))) < bw (Q + 1) (mA n pw fg qu la be) (Q + 1 - (k + 1)) + 1 then fw (mA n pw fg qu la be) (Q + 1 - (Q + 1 - (k + 1))) else bw (Q + 1) (mA n pw fg qu la be) (Q + 1 - (k + 1)) + 1) = _
        rw [show Q + 1 - (Q + 1 - (k + 1)) = k + 1 by omega]
      rw [e] at go
      rw [nI_clamp (by omega : k < 2 ^ 31), nI_clamp (by omega : k + 1 < 2 ^ 31), h1 k (by omega)]
      by_cases hl : k = Q
      · subst hl
        have e0 : bw (k + 1) (mA n pw fg qu la be) (k + 1 - (k + 1)) = 0 := by rw [Nat.sub_self]; rfl
        rw [e0] at go
        refine br_t' rfl ⟨vp_in_nI (by omega) (by omega), ?_⟩
        exact ⟨fun _ => go 1 (by rw [if_neg (by omega)]), fun z => absurd (show nI 1 ≤ _ from nI_le hf1 (by omega)) z⟩
      · refine br_f' (fun z => hl ((nI_eq (by omega) (by omega)).mp z)) ⟨vp_in_nI (by omega) (by omega), vp_in_nI (by omega) (by omega), ?_⟩
        rw [h2 (k + 1) (Nat.le_refl _) (by omega), nI_1]
        refine ⟨fun z => go _ (by rw [if_neg (by have := (nI_leI (by omega) (by omega)).mp z; omega)]), fun z => go _ (by rw [if_pos (by rcases Nat.lt_or_ge (fw (mA n pw fg qu la be) (k + 1)) (bw (Q + 1) (mA n pw fg qu la be) (Q + 1 - (k + 1)) + 1) with y | y; exact y; exact absurd (nI_le y (by omega)) z)])⟩
  have forth : ∀ m k, k + m = q → ∀ p mo s, (∀ i, i < k → s i = nI (fw (mA n pw fg qu la be) (i + 1))) → P_X8_laySpeeds_L10 (nI n) (nI pw) r (nI q) (fun p9 m10 s11 => (∃ ne : Nat, P_X8_laySpeeds_L81 (nI q) (fun s18 => K p9 m10 s18) ne (nI q - 1) s11)) (m + 1) (nI k) p mo s := by
    intro m
    induction m with
    | zero =>
      intro k hk p mo s h1
      unfold P_X8_laySpeeds_L10
      have e : k = q := by omega
      subst e
      exact br_t (nI_le (Nat.le_refl _) (by omega)) ⟨k + 1, back _ _ k (Nat.le_refl k) s h1 (fun i hi hi2 => absurd hi2 (by omega))⟩
    | succ m ih =>
      intro k hk p mo s h1
      unfold P_X8_laySpeeds_L10
      refine br_f (nI_ge (by omega) (by omega)) (sp_mostOf8 hn hp1 hp8 (by omega) hC (fun p' => ⟨vp_in_nI (by omega) (by omega), ?_⟩))
      rw [nI_clamp (by omega : k < 2 ^ 31), nI_1]
      have hmk := hm k
      have hf := (fw_b hm k).1
      have go : ∀ (mo' : Nat → Int32) (x : Nat), x = fw (mA n pw fg qu la be) (k + 1) → P_X8_laySpeeds_L10 (nI n) (nI pw) r (nI q) (fun p9 m10 s11 => (∃ ne : Nat, P_X8_laySpeeds_L81 (nI q) (fun s18 => K p9 m10 s18) ne (nI q - 1) s11)) (m + 1) (nI (k + 1)) p' mo' (upd s k (nI x)) := by
        intro mo' x hx
        refine ih (k + 1) (by omega) _ _ _ (fun i hi => ?_)
        rw [upd_at]
        by_cases h : i = k
        · rw [if_pos h, h, hx]
        · rw [if_neg h]; exact h1 i (by omega)
      have e : fw (mA n pw fg qu la be) (k + 1) = if mA n pw fg qu la be k < fw (mA n pw fg qu la be) k + 1 then mA n pw fg qu la be k else fw (mA n pw fg qu la be) k + 1 := rfl
      rw [e] at go
      have er : ms (tmA n pw fg qu la be k) = mA n pw fg qu la be k := rfl
      rw [er, pk_us]
      by_cases h0 : k = 0
      · subst h0
        have e0 : fw (mA n pw fg qu la be) 0 = 0 := rfl
        rw [e0] at go
        refine br_t' rfl ?_
        exact ⟨fun _ => go _ 1 (by rw [if_neg (by omega)]), fun z => absurd (show nI 1 ≤ _ from nI_le hmk.1 (by omega)) z⟩
      · refine br_f' (nI_ne0 (by omega) (by omega)) ?_
        have e1 : nI k - 1 = nI (k - 1) := by rw [show k = (k - 1) + 1 by omega, nI_pred]; rfl
        rw [e1, nI_clamp (by omega : k - 1 < 2 ^ 31), h1 (k - 1) (by omega), show k - 1 + 1 = k by omega, nI_1]
        refine ⟨vp_in_nI (by omega) (by omega), fun z => go _ _ (by rw [if_neg (by have := (nI_leI (by omega) (by omega)).mp z; omega)]), fun z => go _ _ (by rw [if_pos (by rcases Nat.lt_or_ge (mA n pw fg qu la be k) (fw (mA n pw fg qu la be) k + 1) with y | y; exact y; exact absurd (nI_le y (by omega)) z)])⟩
  exact ⟨q + 1, forth q 0 (by omega) p mo sp (fun i hi => absurd hi (by omega))⟩
theorem CR.qu256 {n q : Nat} (hn : n ≤ 8) {qd la be ri a b d g pr : Int32} {hs fg qu r : Nat → Int32} (hC : CR n q qd la be ri a b d g pr hs fg qu r) : ∀ i, i < q → ∃ v, v < 256 ∧ qu i = nI v := by
  intro i hi
  obtain ⟨v, hv, e⟩ := (hC.2.2.2.2.1 i hi).2
  exact ⟨v, Nat.lt_of_lt_of_le hv (two_pow_8 hn), e⟩
theorem rt_line {L n pw q : Nat} (hn : n ≤ 8) (hp1 : 1 ≤ pw) (hp8 : pw ≤ 8) {xs : Nat → Int32} {x3 qd la be ri a b d g pr : Int32} {p hs fg qu r ti sp mp mo ms' : Nat → Int32} {N : (Nat → Int32) → (Nat → Int32) → (Nat → Int32) → (Nat → Int32) → (Nat → Int32) → (Nat → Int32) → Prop}
    (hb1 : vp_in (x3 + 1) L) (hb2 : vp_in (x3 + 2) L) (hC : CR n q qd la be ri a b d g pr hs fg qu r) (hN : ∀ a b c d e f, N a b c d e f) :
    P_T283 L xs x3 (nI n) (nI pw) p qd la be fg qu ti sp (nI n) (nI pw) r mp mo ms' N := by
  unfold P_T283
  refine ⟨hb1, hb2, ?_⟩
  generalize xs (Int32.toNatClampNeg (x3 + 1)) = z1
  generalize xs (Int32.toNatClampNeg (x3 + 2)) = z2
  have hq8 := hC.2.2.1
  have e21 := hC.2.2.2.1
  have eqd := hC.2.1
  subst eqd
  unfold P_X7_line
  have bad : off z2 4 → P_X8_line z1 z2 (nI n) (nI pw) r mp mo ms' (fun r107 p108 m109 s110 => (((-2 : Int32) = r107 → N p ti sp p108 m109 s110) ∧ (¬ (-2 : Int32) = r107 → False))) := by
    intro h
    unfold P_X8_line
    exact sp_inOff (m := 3) (by omega) rfl h (if00' (eqN (hN _ _ _ _ _ _)))
  rcases on_off z2 (n := 4) (by omega) with h | ⟨j, hj, rfl⟩
  · refine ⟨fun _ => bad h, fun y => ⟨fun z => ?_, fun _ => bad h⟩⟩
    rcases h with h | h
    · exact absurd h y
    · exact absurd z (Int32.not_le.mpr (Int32.lt_of_lt_of_le (by decide) h))
  · refine br_f (nI_pos (by omega)) (br_t (by rw [show (3 : Int32) = nI 3 from rfl]; exact nI_le (by omega) (by omega)) ?_)
    have none : off z1 q → P_X8_line z1 (nI j) (nI n) (nI pw) r mp mo ms' (fun r107 p108 m109 s110 => (((-9 : Int32) = r107 → N p ti sp p108 m109 s110) ∧ (¬ (-9 : Int32) = r107 → False))) := by
      intro h
      unfold P_X8_line
      refine sp_inOn (m := 3) (by omega) rfl (by omega) (if10' ?_)
      rw [tn21, e21]
      by_cases hq0 : q = 0
      · subst hq0
        refine sp_inN ?_ (if00' (eqN (hN _ _ _ _ _ _)))
        rcases h with h | h
        · exact Or.inl (by rw [show (0 : Int64) = (0 : Int32).toInt64 by decide]; exact (wide_lt _ _).mpr h)
        · exact Or.inr ((wide_lt _ _).mpr (Int32.lt_of_lt_of_le (by decide) h))
      · refine sp_inOff (m := q - 1) (by omega) (dots_l (by omega) hq8) (by rw [show q - 1 + 1 = q by omega]; exact h) (if00' (eqN (hN _ _ _ _ _ _)))
    rcases on_off z1 (n := q) (by omega) with h | ⟨i, hi, rfl⟩
    · refine ⟨fun _ => none h, fun y => ⟨fun z => ?_, fun _ => none h⟩⟩
      rcases h with h | h
      · exact absurd h y
      · exact absurd z (Int32.not_lt.mpr h)
    · refine br_f (nI_pos (by omega)) (br_t (nI_lt hi (by omega)) ?_)
      have on8 : ∀ (K : Int32 → (Nat → Int32) → (Nat → Int32) → (Nat → Int32) → Prop), (((nI j).toInt < 0 ∨ 0 + ((3 : Nat) : Int) ≤ (nI j).toInt) → (P_X8_laySpeeds (nI n) (nI pw) r mp mo ms' (fun v3 v4 v5 => (vp_in (nI i) 8 ∧ K (v5 (Int32.toNatClampNeg (nI i))) v3 v4 v5)))) ∧ (nI j = (0 : Int32) → (vp_in ((13 : Int32) + nI i) 30 ∧ K (r (Int32.toNatClampNeg ((13 : Int32) + nI i))) mp mo ms')) ∧ (nI j = (1 : Int32) → (P_X8_timeOf (nI i) (nI n) (nI pw) r mp (fun r8 v9 => K r8 v9 mo ms'))) ∧ (nI j = (2 : Int32) → (P_X8_mostOf (nI i) (nI n) (nI pw) r mp (fun r10 v11 => K r10 v11 mo ms'))) → P_X8_line (nI i) (nI j) (nI n) (nI pw) r mp mo ms' K := by
        intro K hK
        unfold P_X8_line
        refine sp_inOn (m := 3) (by omega) rfl (by omega) (if10' ?_)
        rw [tn21, e21]
        exact sp_inOn (m := q - 1) (by omega) (dots_l (by omega) hq8) (by omega) (if10' hK)
      have hI : ∀ k : Nat, k < 4 → ¬ j = k → ¬ nI j = nI k := fun k hk h z => h ((nI_eq (by omega) (by omega)).mp z)
      have hT : (nI j).toInt = (j : Int) := nI_toInt (by omega)
      by_cases h0 : j = 0
      · subst h0
        refine br_t' rfl ⟨vp_in_nI (by omega) (by omega), ?_⟩
        rw [nI_clamp (by omega : i < 2 ^ 31)]
        refine on8 _ ⟨fun z => absurd z (by rw [hT]; omega), fun _ => ?_, fun z => absurd z (by decide), fun z => absurd z (by decide)⟩
        rw [show (13 : Int32) = nI 13 from rfl, nI_add, nI_clamp (by omega : 13 + i < 2 ^ 31)]
        exact ⟨vp_in_nI (by omega) (by omega), eqN2 (hC.2.2.2.2.1 i hi).1 (hN _ _ _ _ _ _)⟩
      · refine br_f' (nI_ne0 (by omega) (by omega)) (sp_plan hn hp1 hp8 hq8 (hC.qu256 hn) (fun t' s' p' ht hs' => ?_))
        rw [nI_clamp (by omega : i < 2 ^ 31)]
        by_cases h1 : j = 1
        · subst h1
          refine br_t rfl ⟨vp_in_nI (by omega) (by omega), on8 _ ⟨fun z => absurd z (by rw [hT]; omega), fun z => absurd z (by decide), fun _ => ?_, fun z => absurd z (by decide)⟩⟩
          exact sp_timeOf8 hn hp1 hp8 hi hC (fun p2 => eqN2 (ht i hi) (hN _ _ _ _ _ _))
        · refine br_f (hI 1 (by omega) h1) ?_
          by_cases h2 : j = 2
          · subst h2
            refine br_t rfl ⟨vp_in_nI (by omega) (by omega), ?_⟩
            rw [ht i hi]
            refine sp_mostAt (tm_le hn _) (on8 _ ⟨fun z => absurd z (by rw [hT]; omega), fun z => absurd z (by decide), fun z => absurd z (by decide), fun _ => ?_⟩)
            exact sp_mostOf8 hn hp1 hp8 hi hC (fun p2 => eqN (hN _ _ _ _ _ _))
          · refine br_f (hI 2 (by omega) h2) ⟨vp_in_nI (by omega) (by omega), on8 _ ⟨fun _ => ?_, fun z => absurd z (hI 0 (by omega) h0), fun z => absurd z (hI 1 (by omega) h1), fun z => absurd z (hI 2 (by omega) h2)⟩⟩
            refine sp_laySpeeds hn hp1 hp8 hC (fun p2 m2 s2 h2' => ⟨vp_in_nI (by omega) (by omega), ?_⟩)
            rw [nI_clamp (by omega : i < 2 ^ 31)]
            exact eqN2 ((hs' i hi).trans (h2' i hi).symm) (hN _ _ _ _ _ _)
