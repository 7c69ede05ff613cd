/-! ===== pure rows: counted bits, powers, factorials, fractions ===== -/
def bcE (b0 : Int32) : Int32 := ((((((((b0 - (((Int32.toUInt32 b0 >>> (Int32.toUInt32 (1 : Int32) &&& Int32.toUInt32 31)).toInt32) &&& (1431655765 : Int32))) &&& (858993459 : Int32)) + (((Int32.toUInt32 (b0 - (((Int32.toUInt32 b0 >>> (Int32.toUInt32 (1 : Int32) &&& Int32.toUInt32 31)).toInt32) &&& (1431655765 : Int32))) >>> (Int32.toUInt32 (2 : Int32) &&& Int32.toUInt32 31)).toInt32) &&& (858993459 : Int32))) + ((Int32.toUInt32 (((b0 - (((Int32.toUInt32 b0 >>> (Int32.toUInt32 (1 : Int32) &&& Int32.toUInt32 31)).toInt32) &&& (1431655765 : Int32))) &&& (858993459 : Int32)) + (((Int32.toUInt32 (b0 - (((Int32.toUInt32 b0 >>> (Int32.toUInt32 (1 : Int32) &&& Int32.toUInt32 31)).toInt32) &&& (1431655765 : Int32))) >>> (Int32.toUInt32 (2 : Int32) &&& Int32.toUInt32 31)).toInt32) &&& (858993459 : Int32))) >>> (Int32.toUInt32 (4 : Int32) &&& Int32.toUInt32 31)).toInt32)) &&& (252645135 : Int32)) + ((Int32.toUInt32 (((((b0 - (((Int32.toUInt32 b0 >>> (Int32.toUInt32 (1 : Int32) &&& Int32.toUInt32 31)).toInt32) &&& (1431655765 : Int32))) &&& (858993459 : Int32)) + (((Int32.toUInt32 (b0 - (((Int32.toUInt32 b0 >>> (Int32.toUInt32 (1 : Int32) &&& Int32.toUInt32 31)).toInt32) &&& (1431655765 : Int32))) >>> (Int32.toUInt32 (2 : Int32) &&& Int32.toUInt32 31)).toInt32) &&& (858993459 : Int32))) + ((Int32.toUInt32 (((b0 - (((Int32.toUInt32 b0 >>> (Int32.toUInt32 (1 : Int32) &&& Int32.toUInt32 31)).toInt32) &&& (1431655765 : Int32))) &&& (858993459 : Int32)) + (((Int32.toUInt32 (b0 - (((Int32.toUInt32 b0 >>> (Int32.toUInt32 (1 : Int32) &&& Int32.toUInt32 31)).toInt32) &&& (1431655765 : Int32))) >>> (Int32.toUInt32 (2 : Int32) &&& Int32.toUInt32 31)).toInt32) &&& (858993459 : Int32))) >>> (Int32.toUInt32 (4 : Int32) &&& Int32.toUInt32 31)).toInt32)) &&& (252645135 : Int32)) >>> (Int32.toUInt32 (8 : Int32) &&& Int32.toUInt32 31)).toInt32)) + ((Int32.toUInt32 ((((((b0 - (((Int32.toUInt32 b0 >>> (Int32.toUInt32 (1 : Int32) &&& Int32.toUInt32 31)).toInt32) &&& (1431655765 : Int32))) &&& (858993459 : Int32)) + (((Int32.toUInt32 (b0 - (((Int32.toUInt32 b0 >>> (Int32.toUInt32 (1 : Int32) &&& Int32.toUInt32 31)).toInt32) &&& (1431655765 : Int32))) >>> (Int32.toUInt32 (2 : Int32) &&& Int32.toUInt32 31)).toInt32) &&& (858993459 : Int32))) + ((Int32.toUInt32 (((b0 - (((Int32.toUInt32 b0 >>> (Int32.toUInt32 (1 : Int32) &&& Int32.toUInt32 31)).toInt32) &&& (1431655765 : Int32))) &&& (858993459 : Int32)) + (((Int32.toUInt32 (b0 - (((Int32.toUInt32 b0 >>> (Int32.toUInt32 (1 : Int32) &&& Int32.toUInt32 31)).toInt32) &&& (1431655765 : Int32))) >>> (Int32.toUInt32 (2 : Int32) &&& Int32.toUInt32 31)).toInt32) &&& (858993459 : Int32))) >>> (Int32.toUInt32 (4 : Int32) &&& Int32.toUInt32 31)).toInt32)) &&& (252645135 : Int32)) + ((Int32.toUInt32 (((((b0 - (((Int32.toUInt32 b0 >>> (Int32.toUInt32 (1 : Int32) &&& Int32.toUInt32 31)).toInt32) &&& (1431655765 : Int32))) &&& (858993459 : Int32)) + (((Int32.toUInt32 (b0 - (((Int32.toUInt32 b0 >>> (Int32.toUInt32 (1 : Int32) &&& Int32.toUInt32 31)).toInt32) &&& (1431655765 : Int32))) >>> (Int32.toUInt32 (2 : Int32) &&& Int32.toUInt32 31)).toInt32) &&& (858993459 : Int32))) + ((Int32.toUInt32 (((b0 - (((Int32.toUInt32 b0 >>> (Int32.toUInt32 (1 : Int32) &&& Int32.toUInt32 31)).toInt32) &&& (1431655765 : Int32))) &&& (858993459 : Int32)) + (((Int32.toUInt32 (b0 - (((Int32.toUInt32 b0 >>> (Int32.toUInt32 (1 : Int32) &&& Int32.toUInt32 31)).toInt32) &&& (1431655765 : Int32))) >>> (Int32.toUInt32 (2 : Int32) &&& Int32.toUInt32 31)).toInt32) &&& (858993459 : Int32))) >>> (Int32.toUInt32 (4 : Int32) &&& Int32.toUInt32 31)).toInt32)) &&& (252645135 : Int32)) >>> (Int32.toUInt32 (8 : Int32) &&& Int32.toUInt32 31)).toInt32)) >>> (Int32.toUInt32 (16 : Int32) &&& Int32.toUInt32 31)).toInt32)) &&& (63 : Int32))
/-- how many dots are in a set -/
def pcb (v : Nat) : Nat := v % 2 + v / 2 % 2 + v / 4 % 2 + v / 8 % 2 + v / 16 % 2 + v / 32 % 2 + v / 64 % 2 + v / 128 % 2
set_option maxRecDepth 100000 in
theorem bc_c : ∀ v : Fin 256, bcE (nI v.val) = nI (pcb v.val) := by decide +kernel
theorem sp_bitCount {v : Nat} (hv : v < 256) {K : Int32 → Prop} (hK : K (nI (pcb v))) : P_J6_bitCount_0f7a4 (nI v) K := by
  have h := bc_c ⟨v, hv⟩
  dsimp only at h
  show K (bcE (nI v))
  rw [h]; exact hK
theorem pcb_le (v : Nat) : pcb v ≤ 8 := by unfold pcb; omega
def onI (w : Int32) (m : Nat) : Int32 := itr (fun k s => s + tb w k) m 0
set_option maxRecDepth 100000 in
theorem on_c : ∀ v : Fin 256, onI (nI v.val) 8 = nI (pcb v.val) := by decide +kernel
theorem sp_ones {v : Nat} (hv : v < 256) {K : Int32 → Prop} (hK : K (nI (pcb v))) : P_X8_ones (nI v) K := by
  unfold P_X8_ones
  have h := on_c ⟨v, hv⟩
  dsimp only at h
  rw [← h] at hK
  refine cnt_itr (P := fun fu i s => P_X8_ones_L4 (nI v) (fun x => K x) fu s i) 8 (by omega) (fun k s => s + tb (nI v) k) 0 ?_ ?_
  · intro fu
    unfold P_X8_ones_L4
    exact br_t (by decide) hK
  · intro fu k s hk _ hp
    unfold P_X8_ones_L4
    refine br_f (by rw [show (8 : Int32) = nI 8 from rfl]; exact nI_ge hk (by omega)) ?_
    rw [nI_1]
    exact hp
theorem sp_power {x m : Nat} (hx : x < 2 ^ 31) (hm : m < 2 ^ 31) {K : Int64 → Prop} (hK : K (lN (x ^ m))) : P_X7_power (nI x) (nI m) K := by
  unfold P_X7_power
  have key : ∀ j k, k + j = m → P_X7_power_L5 (nI x) (nI m) (fun x => K x) (j + 1) (lN (x ^ k)) (nI k) := by
    intro j
    induction j with
    | zero =>
      intro k hk
      unfold P_X7_power_L5
      have e : k = m := by omega
      subst e
      exact br_t (nI_le (Nat.le_refl _) hm) hK
    | succ j ih =>
      intro k hk
      unfold P_X7_power_L5
      refine br_f (nI_ge (by omega) hm) ?_
      rw [nI_l hx, lN_mul, ← Nat.pow_succ, nI_1]
      exact ih (k + 1) (by omega)
  have h := key m 0 (by omega)
  rw [Nat.pow_zero] at h
  exact ⟨m + 1, h⟩
theorem sp_raised {x m : Nat} (hm : m < 2 ^ 31) {K : Int32 → Prop} (hK : K (nI (x ^ m))) : P_X8_raised (nI x) (nI m) K := by
  unfold P_X8_raised
  have key : ∀ j k, k + j = m → P_X8_raised_L4 (nI x) (nI m) (fun x => K x) (j + 1) (nI (x ^ k)) (nI k) := by
    intro j
    induction j with
    | zero =>
      intro k hk
      unfold P_X8_raised_L4
      have e : k = m := by omega
      subst e
      exact br_t (nI_le (Nat.le_refl _) hm) hK
    | succ j ih =>
      intro k hk
      unfold P_X8_raised_L4
      refine br_f (nI_ge (by omega) hm) ?_
      rw [pk_mul, ← Nat.pow_succ, nI_1]
      exact ih (k + 1) (by omega)
  have h := key m 0 (by omega)
  rw [Nat.pow_zero] at h
  exact ⟨m + 1, h⟩
def fac : Nat → Nat
  | 0 => 1
  | k + 1 => fac k * (k + 1)
theorem sp_factorial {m : Nat} (hm : m ≤ 8) {K : Int32 → Prop} (hK : K (nI (fac m))) : P_X8_factorial (nI m) K := by
  unfold P_X8_factorial
  have key : ∀ j k, 1 ≤ k → k + j = m → P_X8_factorial_L4 (nI m) (fun x => K x) (j + 1) (nI (fac k)) (nI (k + 1)) := by
    intro j
    induction j with
    | zero =>
      intro k h1 hk
      unfold P_X8_factorial_L4
      have e : k = m := by omega
      subst e
      exact br_t (nI_lt (by omega) (by omega)) hK
    | succ j ih =>
      intro k h1 hk
      unfold P_X8_factorial_L4
      refine br_f (nI_nlt (by omega) (by omega)) ?_
      rw [pk_mul, nI_1]
      exact ih (k + 1) (by omega) (by omega)
  rcases Nat.eq_zero_or_pos m with h | h
  · subst h
    refine ⟨1, ?_⟩
    unfold P_X8_factorial_L4
    exact br_t (by decide) hK
  · exact ⟨m - 1 + 1, key (m - 1) 1 (by omega) (by omega)⟩
theorem fc_c : ∀ k : Fin 9, g_fc k.val = nI (fac k.val) ∧ 1 ≤ fac k.val ∧ fac k.val ≤ 40320 := by decide +kernel
theorem fc_e {k : Nat} (h : k ≤ 8) : g_fc k = nI (fac k) := (fc_c ⟨k, by omega⟩).1
theorem fac_pos {k : Nat} (h : k ≤ 8) : 1 ≤ fac k := (fc_c ⟨k, by omega⟩).2.1
theorem fac_le {k : Nat} (h : k ≤ 8) : fac k ≤ 40320 := (fc_c ⟨k, by omega⟩).2.2
theorem sp_orders {n j : Nat} (hn : n ≤ 8) (hj : j + 1 ≤ n) {K : Int64 → Prop} (hK : K (lN (fac j * fac (n - 1 - j)))) : P_X7_ordersWith (nI j) (nI n) K := by
  unfold P_X7_ordersWith
  rw [show (1 : Int32) = nI 1 from rfl, pk_sub (by omega), pk_sub (by omega), nI_clamp (by omega : j < 2 ^ 31), nI_clamp (by omega : n - 1 - j < 2 ^ 31)]
  have f1 := fac_le (show j ≤ 8 by omega)
  have f2 := fac_le (show n - 1 - j ≤ 8 by omega)
  refine br_f (nI_pos (by omega)) (br_f (nI_pos (by omega)) (br_f (nI_ge (b := 9) (by omega) (by omega)) (br_t (nI_lt (b := 9) (by omega) (by omega)) ⟨vp_in_nI (by omega) (by omega), vp_in_nI (by omega) (by omega), ?_⟩)))
  rw [fc_e (by omega), fc_e (by omega), nI_l (by omega), nI_l (by omega), lN_mul]
  exact hK
-- Euclid
def eu : Nat → Nat → Nat → Prop
  | 0, _, b => b = 0
  | m + 1, a, b => b = 0 ∨ eu m b (a % b)
theorem eu_mono : ∀ m a b, eu m a b → eu (m + 1) a b := by
  intro m
  induction m with
  | zero => intro a b h; exact Or.inl h
  | succ m ih =>
    intro a b h
    rcases h with h | h
    · exact Or.inl h
    · exact Or.inr (ih _ _ h)
theorem eu_ok : ∀ j a b, b < 2 ^ j → eu (2 * j) a b := by
  intro j
  induction j with
  | zero => intro a b h; show b = 0; omega
  | succ j ih =>
    intro a b h
    show eu (2 * j + 1 + 1) a b
    by_cases h0 : b = 0
    · exact Or.inl h0
    · refine Or.inr ?_
      by_cases h1 : a % b = 0
      · exact Or.inl h1
      · refine Or.inr (ih _ _ ?_)
        have hc : a % b < b := Nat.mod_lt _ (by omega)
        have hd : b % (a % b) < a % b := Nat.mod_lt _ (by omega)
        have he : b % (a % b) ≤ b - a % b := by
          rw [Nat.mod_eq_sub_mod (by omega)]
          exact Nat.mod_le _ _
        rw [Nat.pow_succ] at h
        omega
theorem gcd_step (a b : Nat) : Nat.gcd a b = Nat.gcd b (a % b) := by
  rw [Nat.gcd_comm a b, Nat.gcd_rec, Nat.gcd_comm]
theorem lgc_eq {a b : Int64} : lg_cmp a b = 0 ↔ a = b := by
  unfold lg_cmp
  by_cases h : a > b
  · rw [if_pos h]
    exact ⟨fun q => absurd q (by decide), fun q => by subst q; exact absurd h (Int64.lt_irrefl)⟩
  · rw [if_neg h]
    by_cases h2 : a = b
    · rw [if_pos h2]; exact ⟨fun _ => h2, fun _ => rfl⟩
    · rw [if_neg h2]; exact ⟨fun q => absurd q (by decide), fun q => absurd q h2⟩
theorem sp_commonDivisor {a b : Nat} (ha : a < 2 ^ 31) (hb : b < 2 ^ 31) {K : Int64 → Prop} (hK : K (lN (Nat.gcd a b))) : P_X7_commonDivisor (lN a) (lN b) K := by
  unfold P_X7_commonDivisor
  have key : ∀ m a b s, s + m < 100 → a < 2 ^ 31 → b < 2 ^ 31 → eu m a b → K (lN (Nat.gcd a b)) → P_X7_commonDivisor_L9 (fun x => K x) (m + 1) (lN a) (lN b) (nI s) := by
    intro m
    induction m with
    | zero =>
      intro a b s hs ha hb he hK
      have he' : b = 0 := he
      subst he'
      rw [Nat.gcd_zero_right] at hK
      unfold P_X7_commonDivisor_L9
      exact br_f (nI_ge (b := 100) (by omega) (by omega)) (br_t (lgc_eq.mpr rfl) hK)
    | succ m ih =>
      intro a b s hs ha hb he hK
      unfold P_X7_commonDivisor_L9
      refine br_f (nI_ge (b := 100) (by omega) (by omega)) ?_
      by_cases h0 : b = 0
      · subst h0
        rw [Nat.gcd_zero_right] at hK
        exact br_t (lgc_eq.mpr rfl) hK
      · have hne : ¬ lN b = 0 := fun z => h0 ((pk_lEQ (b := 0) (by omega) (by omega)).mp z)
        refine br_f (fun z => hne (lgc_eq.mp z)) ⟨hne, ?_⟩
        rw [pk_lRem (by omega) (by omega) (by omega), nI_1]
        have hm : a % b < b := Nat.mod_lt _ (by omega)
        refine ih _ _ _ (by omega) hb (by omega) (he.resolve_left h0) ?_
        rw [← gcd_step]; exact hK
  have h := key 62 a b 0 (by omega) ha hb (eu_ok 31 a b hb) hK
  rw [nI_0] at h
  exact ⟨63, h⟩
theorem sp_fractionL {a b : Nat} (ha : a < 2 ^ 31) (hb : b < 2 ^ 31) {x0 x1 x2 : Int32} {C : Int32 → Prop} (hC : C (nI (Nat.gcd a b))) : ∃ ne : Nat, P_X8_fraction_L14 x0 x1 x2 C ne (nI a) (nI b) := by
  have key : ∀ m a b, a < 2 ^ 31 → b < 2 ^ 31 → eu m a b → C (nI (Nat.gcd a b)) → P_X8_fraction_L14 x0 x1 x2 C (m + 1) (nI a) (nI b) := by
    intro m
    induction m with
    | zero =>
      intro a b ha hb he hK
      have he' : b = 0 := he
      subst he'
      rw [Nat.gcd_zero_right] at hK
      unfold P_X8_fraction_L14
      exact br_t nI_0 hK
    | succ m ih =>
      intro a b ha hb he hK
      unfold P_X8_fraction_L14
      by_cases h0 : b = 0
      · subst h0
        rw [Nat.gcd_zero_right] at hK
        exact br_t nI_0 hK
      · have hne : ¬ nI b = 0 := nI_ne0 (by omega) hb
        refine br_f hne ⟨hne, ?_⟩
        rw [rem_nI ha (by omega) hb]
        have hm : a % b < b := Nat.mod_lt _ (by omega)
        refine ih _ _ hb (by omega) (he.resolve_left h0) ?_
        rw [← gcd_step]; exact hK
  exact ⟨63, key 62 a b ha hb (eu_ok 31 a b hb) hC⟩
/-- a fraction told: the upper or the lower number -/
def frV (A : Int) (B : Nat) (u : Int32) : Int32 := if u = 0 then Int32.ofInt ((B : Int).tdiv (Nat.gcd A.natAbs B : Nat)) else Int32.ofInt (A.tdiv (Nat.gcd A.natAbs B : Nat))
theorem lN_ofInt (a : Nat) : lN a = Int64.ofInt (a : Int) := Int64.ofInt_eq_ofNat.symm
theorem nI_ofInt (a : Nat) : nI a = Int32.ofInt (a : Int) := Int32.ofInt_eq_ofNat.symm
theorem i64_min : Int64.minValue.toInt = -9223372036854775808 := by decide
theorem i64_max : Int64.maxValue.toInt = 9223372036854775807 := by decide
theorem i32_min : Int32.minValue.toInt = -2147483648 := by decide
theorem i32_max : Int32.maxValue.toInt = 2147483647 := by decide
theorem sp_told {A : Int} {B : Nat} {u : Int32} (hA1 : -2147483648 < A) (hA2 : A < 2147483648) (hB1 : 1 ≤ B) (hB : B < 2 ^ 31) {K : Int32 → Prop} (hK : K (frV A B u)) : P_X7_toldFraction (Int64.ofInt A) (lN B) u K := by
  unfold P_X7_toldFraction
  have eabs : (if 0 < Int64.ofInt A then Int64.ofInt A else -(Int64.ofInt A)) = lN A.natAbs := by
    have tA : (Int64.ofInt A).toInt = A := Int64.toInt_ofInt_of_le (by omega) (by omega)
    by_cases h : 0 < A
    · have : 0 < Int64.ofInt A := by rw [Int64.lt_iff_toInt_lt, tA]; exact h
      rw [if_pos this, lN_ofInt]
      congr 1
      omega
    · have : ¬ 0 < Int64.ofInt A := by rw [Int64.lt_iff_toInt_lt, tA]; exact h
      rw [if_neg this, lN_ofInt, ← Int64.ofInt_neg]
      congr 1
      omega
  rw [eabs]
  refine sp_commonDivisor (by omega) hB ?_
  generalize hg : Nat.gcd A.natAbs B = g
  have hg1 : 1 ≤ g := by rw [← hg]; exact Nat.gcd_pos_of_pos_right _ (by omega)
  have hg2 : g ≤ B := by rw [← hg]; exact Nat.gcd_le_right _ (by omega)
  have emax : (if lN g < 1 then (1 : Int64) else lN g) = lN g := by
    rw [if_neg]
    rw [show (1 : Int64) = lN 1 from rfl, pk_lLT (by omega) (by omega)]
    omega
  rw [emax]
  have hne : ¬ lN g = 0 := fun z => by have := (pk_lEQ (b := 0) (by omega) (by omega)).mp z; omega
  unfold frV at hK
  rw [hg] at hK
  refine ⟨fun hu => ⟨hne, ?_⟩, fun hu => ⟨hne, ?_⟩⟩
  · rw [if_pos hu] at hK
    rw [lN_ofInt B, lN_ofInt g, ← Int64.ofInt_tdiv (by rw [i64_min]; omega) (by rw [i64_max]; omega) (by rw [i64_min]; omega) (by rw [i64_max]; omega), Int64.toInt32_ofInt]
    exact hK
  · rw [if_neg hu] at hK
    rw [lN_ofInt g, ← Int64.ofInt_tdiv (by rw [i64_min]; omega) (by rw [i64_max]; omega) (by rw [i64_min]; omega) (by rw [i64_max]; omega), Int64.toInt32_ofInt]
    exact hK
theorem sp_fraction {A : Int} {B : Nat} {u : Int32} (hA1 : -2147483648 < A) (hA2 : A < 2147483648) (hB1 : 1 ≤ B) (hB : B < 2 ^ 31) {K : Int32 → Prop} (hK : K (frV A B u)) : P_X8_fraction (Int32.ofInt A) (nI B) u K := by
  unfold P_X8_fraction
  have tA : (Int32.ofInt A).toInt = A := Int32.toInt_ofInt_of_le (by omega) (by omega)
  generalize hg : Nat.gcd A.natAbs B = g
  have hg1 : 1 ≤ g := by rw [← hg]; exact Nat.gcd_pos_of_pos_right _ (by omega)
  have hg2 : g ≤ B := by rw [← hg]; exact Nat.gcd_le_right _ (by omega)
  have hne : ¬ nI g = 0 := nI_ne0 (by omega) (by omega)
  unfold frV at hK
  rw [hg] at hK
  have fin : ((u = 0 → (¬ nI g = 0 ∧ K (nI B / nI g))) ∧ (¬ u = 0 → (¬ nI g = 0 ∧ K (Int32.ofInt A / nI g)))) := by
    refine ⟨fun hu => ⟨hne, ?_⟩, fun hu => ⟨hne, ?_⟩⟩
    · rw [if_pos hu] at hK
      rw [nI_ofInt B, nI_ofInt g, ← Int32.ofInt_tdiv (by rw [i32_min]; omega) (by rw [i32_max]; omega) (by rw [i32_min]; omega) (by rw [i32_max]; omega)]
      exact hK
    · rw [if_neg hu] at hK
      rw [nI_ofInt g, ← Int32.ofInt_tdiv (by rw [i32_min]; omega) (by rw [i32_max]; omega) (by rw [i32_min]; omega) (by rw [i32_max]; omega)]
      exact hK
  refine ⟨fun h => ?_, fun h => ?_⟩
  · have hA : 0 ≤ A := by
      have := Int32.le_iff_toInt_le.mp h
      rw [tA] at this
      exact this
    have ex : ∃ ne : Nat, P_X8_fraction_L14 (Int32.ofInt A) (nI B) u (fun x3 => ((u = 0 → (¬ x3 = 0 ∧ K (nI B / x3))) ∧ (¬ u = 0 → (¬ x3 = 0 ∧ K (Int32.ofInt A / x3))))) ne (nI A.natAbs) (nI B) := sp_fractionL (by omega) hB (by rw [hg]; exact fin)
    have e : nI A.natAbs = Int32.ofInt A := by
      rw [nI_ofInt]; congr 1; omega
    rw [e] at ex
    exact ex
  · have hA : ¬ 0 ≤ A := by
      intro z
      apply h
      rw [Int32.le_iff_toInt_le, tA]
      exact z
    have ex : ∃ ne : Nat, P_X8_fraction_L14 (Int32.ofInt A) (nI B) u (fun x3 => ((u = 0 → (¬ x3 = 0 ∧ K (nI B / x3))) ∧ (¬ u = 0 → (¬ x3 = 0 ∧ K (Int32.ofInt A / x3))))) ne (nI A.natAbs) (nI B) := sp_fractionL (by omega) hB (by rw [hg]; exact fin)
    have e : nI A.natAbs = -(Int32.ofInt A) := by
      rw [nI_ofInt, ← Int32.ofInt_neg]; congr 1; omega
    rw [e] at ex
    exact ex
