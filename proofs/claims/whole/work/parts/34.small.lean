/-! ===== pure rows: small calls ===== -/
theorem lgc_lt {a b : Int64} : lg_cmp a b < 0 ↔ a < b := by
  have h := lg_cmp_ge a b
  constructor
  · intro q
    exact Int64.not_le.mp (fun z => absurd (h.mpr z) (Int32.not_le.mpr q))
  · intro q
    exact Int32.not_le.mp (fun z => absurd (h.mp z) (Int64.not_le.mpr q))
theorem lgc_gt {a b : Int64} : 0 < lg_cmp a b ↔ b < a := by
  unfold lg_cmp
  by_cases h : a > b
  · rw [if_pos h]
    exact ⟨fun _ => h, fun _ => by decide⟩
  · rw [if_neg h]
    refine ⟨fun q => ?_, fun q => absurd q h⟩
    by_cases h2 : a = b
    · rw [if_pos h2] at q; exact absurd q (by decide)
    · rw [if_neg h2] at q; exact absurd q (by decide)
theorem sp_inY {a lo hi : Int64} {K : Int32 → Prop} (h1 : lo ≤ a) (h2 : a ≤ hi) (h : K 1) : P_X8_in a lo hi K := by
  unfold P_X8_in
  refine br_f (fun q => absurd (lgc_lt.mp q) (Int64.not_lt.mpr h1)) (br_f (fun q => absurd (lgc_gt.mp q) (Int64.not_lt.mpr h2)) h)
theorem sp_inN {a lo hi : Int64} {K : Int32 → Prop} (h1 : a < lo ∨ hi < a) (h : K 0) : P_X8_in a lo hi K := by
  unfold P_X8_in
  refine ⟨fun _ => h, fun q => ⟨fun _ => h, fun z => ?_⟩⟩
  rcases h1 with h1 | h1
  · exact absurd (lgc_lt.mpr h1) q
  · exact absurd (lgc_gt.mpr h1) z
theorem wide_lt (a b : Int32) : a.toInt64 < b.toInt64 ↔ a < b := by
  rw [Int64.lt_iff_toInt_lt, Int32.lt_iff_toInt_lt, Int32.toInt_toInt64, Int32.toInt_toInt64]
theorem wide_le (a b : Int32) : a.toInt64 ≤ b.toInt64 ↔ a ≤ b := by
  rw [Int64.le_iff_toInt_le, Int32.le_iff_toInt_le, Int32.toInt_toInt64, Int32.toInt_toInt64]
/-- a number within 0 .. m, or not -/
def off (b : Int32) (n : Nat) : Prop := b < 0 ∨ nI n ≤ b
theorem on_off (b : Int32) {n : Nat} (hn : n < 2 ^ 31) : off b n ∨ ∃ j, j < n ∧ b = nI j := by
  rcases pk_ix b hn with h | h | h
  · exact Or.inl (Or.inl h)
  · exact Or.inl (Or.inr h)
  · exact Or.inr h
theorem sp_inOff {b : Int32} {m : Nat} (hm : m + 1 < 2 ^ 31) {H : Int64} (hH : H = lN m) (h : off b (m + 1)) {K : Int32 → Prop} (hK : K 0) : P_X8_in b.toInt64 (0 : Int64) H K := by
  subst hH
  refine sp_inN ?_ hK
  rcases h with h | h
  · left
    rw [show (0 : Int64) = (0 : Int32).toInt64 by decide]
    exact (wide_lt _ _).mpr h
  · right
    rw [← nI_l (by omega)]
    exact (wide_lt _ _).mpr (Int32.lt_of_lt_of_le (nI_lt (Nat.lt_succ_self m) (by omega)) h)
theorem sp_inOn {j m : Nat} (hm : m + 1 < 2 ^ 31) {H : Int64} (hH : H = lN m) (h : j < m + 1) {K : Int32 → Prop} (hK : K 1) : P_X8_in (nI j).toInt64 (0 : Int64) H K := by
  subst hH
  refine sp_inY ?_ ?_ hK
  · rw [show (0 : Int64) = (0 : Int32).toInt64 by decide]
    exact (wide_le _ _).mpr (nI_pos' (by omega))
  · rw [← nI_l (by omega : m < 2 ^ 31)]
    exact (wide_le _ _).mpr (nI_le (by omega) (by omega))
theorem bool1 : narrow .boolean (.int 1) = .int 1 := by decide
theorem bool0 : narrow .boolean (.int 0) = .int 0 := by decide
theorem dots_l {n : Nat} (h1 : 1 ≤ n) (hn : n ≤ 8) : (nI n - 1).toInt64 = lN (n - 1) := by
  rw [show (1 : Int32) = nI 1 from rfl, pk_sub h1, nI_l (by omega)]
theorem sp_isDotOff {b : Int32} {n : Nat} (h1 : 1 ≤ n) (hn : n ≤ 8) (h : off b n) {K : Int32 → Prop} (hK : K 0) : P_X8_isDot b (nI n) K := by
  unfold P_X8_isDot
  exact sp_inOff (m := n - 1) (by omega) (dots_l h1 hn) (by rw [Nat.sub_add_cancel h1]; exact h) ⟨bool0, hK⟩
theorem sp_isDotOn {j n : Nat} (h1 : 1 ≤ n) (hn : n ≤ 8) (h : j < n) {K : Int32 → Prop} (hK : K 1) : P_X8_isDot (nI j) (nI n) K := by
  unfold P_X8_isDot
  exact sp_inOn (m := n - 1) (by omega) (dots_l h1 hn) (by omega) ⟨bool1, hK⟩
theorem sp_hasDotOff {b : Int32} {n : Nat} (h : off b n) {K : Int32 → Prop} (hK : K 0) : P_X1_hasDot b (nI n) K := by
  unfold P_X1_hasDot
  refine ⟨fun _ => hK, fun q => ⟨fun _ => hK, fun z => ?_⟩⟩
  rcases h with h | h
  · exact absurd h q
  · exact absurd h z
theorem sp_hasDotOn {j n : Nat} (hn : n ≤ 8) (h : j < n) {K : Int32 → Prop} (hK : K 1) : P_X1_hasDot (nI j) (nI n) K := by
  unfold P_X1_hasDot
  exact br_f (nI_pos (by omega)) (br_f (nI_ge h (by omega)) hK)
theorem eqN {r : Int32} {N : Prop} (h : N) : (r = r → N) ∧ (¬ r = r → False) := ⟨fun _ => h, fun q => q rfl⟩
theorem eqN2 {r r' : Int32} {N : Prop} (e : r = r') (h : N) : (r = r' → N) ∧ (¬ r = r' → False) := ⟨fun _ => h, fun q => q e⟩
theorem if10 {A B : Prop} (h : B) : ((1 : Int32) = (0 : Int32) → A) ∧ (¬ (1 : Int32) = (0 : Int32) → B) := ⟨fun q => absurd q (by decide), fun _ => h⟩
theorem if00 {A B : Prop} (h : A) : ((0 : Int32) = (0 : Int32) → A) ∧ (¬ (0 : Int32) = (0 : Int32) → B) := ⟨fun _ => h, fun q => absurd rfl q⟩
theorem if10' {A B : Prop} (h : A) : (¬ (1 : Int32) = (0 : Int32) → A) ∧ ((1 : Int32) = (0 : Int32) → B) := ⟨fun _ => h, fun q => absurd q (by decide)⟩
theorem if00' {A B : Prop} (h : B) : (¬ (0 : Int32) = (0 : Int32) → A) ∧ ((0 : Int32) = (0 : Int32) → B) := ⟨fun q => absurd rfl q, fun _ => h⟩
-- the text
def R_txt (tl : Int32) (le : Nat → Int32) (ml : Int32) (mt : Nat → Int32) : Prop := ∃ t, t ≤ 99 ∧ tl = nI t ∧ ml = nI t ∧ ∀ i, i < t → le i = mt i ∧ ∃ v, v < 256 ∧ le i = nI v
theorem rt_write {L : Nat} {xs : Nat → Int32} {x3 tl ml : Int32} {le mt : Nat → Int32} {N : Int32 → (Nat → Int32) → Int32 → (Nat → Int32) → Prop} (hb : vp_in (x3 + 1) L) (hR : R_txt tl le ml mt) (hN : ∀ tl' le' ml' mt', R_txt tl' le' ml' mt' → N tl' le' ml' mt') : P_T152 L xs x3 tl le ml mt N := by
  unfold P_T152
  refine ⟨hb, ?_⟩
  generalize xs (Int32.toNatClampNeg (x3 + 1)) = b
  obtain ⟨t, ht, e1, e2, hle⟩ := id hR
  subst e1; subst e2
  unfold P_X7_write P_X8_write
  rcases on_off b (n := 256) (by omega) with h | ⟨j, hj, rfl⟩
  · have done : P_X8_in b.toInt64 (0 : Int64) (255 : Int64) (fun r1 => ((¬ r1 = (0 : Int32) → ((¬ nI t = (99 : Int32) → (vp_in (nI t) 99 ∧ (((-2 : Int32) = (nI t + 1) → N (nI t) le (nI t + 1) (upd mt (Int32.toNatClampNeg (nI t)) b)) ∧ (¬ (-2 : Int32) = (nI t + 1) → False)))) ∧ (nI t = (99 : Int32) → (((-2 : Int32) = -4 → N (nI t) le (nI t) mt) ∧ (¬ (-2 : Int32) = -4 → False))))) ∧ (r1 = (0 : Int32) → (((-2 : Int32) = -2 → N (nI t) le (nI t) mt) ∧ (¬ (-2 : Int32) = -2 → False))))) :=
      sp_inOff (m := 255) (by omega) rfl h (if00' (eqN (hN _ _ _ _ hR)))
    refine ⟨fun _ => done, fun q => ⟨fun z => ?_, fun _ => done⟩⟩
    rcases h with h | h
    · exact absurd h q
    · exact absurd z (Int32.not_le.mpr (Int32.lt_of_lt_of_le (by decide) h))
  · refine br_f (nI_pos (by omega)) (br_t (by rw [show (255 : Int32) = nI 255 from rfl]; exact nI_le (by omega) (by omega)) ?_)
    unfold P_X6_append
    by_cases h99 : t = 99
    · subst h99
      refine br_f (by decide) (if00 ?_)
      refine sp_inOn (m := 255) (by omega) rfl hj (if10' ⟨fun q => absurd rfl q, fun _ => eqN (hN _ _ _ _ hR)⟩)
    · refine br_t (by rw [show (99 : Int32) = nI 99 from rfl]; exact nI_lt (by omega) (by omega)) ⟨vp_in_nI (by omega) (by omega), if10 ?_⟩
      refine sp_inOn (m := 255) (by omega) rfl hj (if10' ⟨fun _ => ⟨vp_in_nI (by omega) (by omega), eqN ?_⟩, fun q => ?_⟩)
      · rw [nI_1, nI_clamp (by omega)]
        refine hN _ _ _ _ ⟨t + 1, by omega, rfl, rfl, fun i hi => ?_⟩
        rw [upd_at, upd_at]
        by_cases h : i = t
        · rw [if_pos h, if_pos h]; exact ⟨rfl, j, hj, rfl⟩
        · rw [if_neg h, if_neg h]; exact hle i (by omega)
      · rw [show (99 : Int32) = nI 99 from rfl] at q
        exact absurd ((nI_eq (by omega) (by omega)).mp q) h99
theorem rt_wipe {L : Nat} {xs : Nat → Int32} {x3 tl ml : Int32} {le mt : Nat → Int32} {N : Int32 → Int32 → Prop} (hR : R_txt tl le ml mt) (hN : ∀ tl' ml', R_txt tl' le ml' mt → N tl' ml') : P_T175 L xs x3 tl ml N := by
  obtain ⟨t, ht, e1, e2, hle⟩ := id hR
  subst e1; subst e2
  exact eqN (hN _ _ ⟨0, by omega, rfl, rfl, fun i hi => absurd hi (by omega)⟩)
theorem rt_heat {L n q : Nat} (h1 : 1 ≤ n) (hn : n ≤ 8) {xs : Nat → Int32} {x3 qd la be ri a b d g pr : Int32} {hs fg qu r : Nat → Int32} {N : Prop} (hb : vp_in (x3 + 1) L) (hC : CR n q qd la be ri a b d g pr hs fg qu r) (hN : N) : P_T237 L xs x3 (nI n) hs (nI n) r N := by
  unfold P_T237
  refine ⟨hb, ?_⟩
  generalize xs (Int32.toNatClampNeg (x3 + 1)) = z
  unfold P_X7_heat P_X8_heat
  rcases on_off z (n := n) (by omega) with h | ⟨j, hj, rfl⟩
  · exact sp_hasDotOff h (if00 (sp_isDotOff h1 hn h (if00 (eqN hN))))
  · refine sp_hasDotOn hn hj (if10 ⟨vp_in_nI (by omega) (by omega), sp_isDotOn h1 hn hj (if10 ⟨vp_in_nI (by omega) (by omega), eqN2 ?_ hN⟩)⟩)
    rw [nI_clamp (by omega)]
    exact hC.1.1 j (by omega)
theorem sp_figOff {b : Int32} (h : off b 5) {K : Int32 → Prop} (hK : K 0) : P_X7_isFigurePlace b K := by
  unfold P_X7_isFigurePlace
  refine ⟨fun _ => hK, fun q => ⟨fun _ => hK, fun z => ?_⟩⟩
  rcases h with h | h
  · exact absurd h q
  · exact absurd h z
theorem sp_figOn {j : Nat} (h : j < 5) {K : Int32 → Prop} (hK : K 1) : P_X7_isFigurePlace (nI j) K := by
  unfold P_X7_isFigurePlace
  exact br_f (nI_pos (by omega)) (br_f (by rw [show (5 : Int32) = nI 5 from rfl]; exact nI_ge h (by omega)) hK)
theorem rt_table {L n q : Nat} {xs : Nat → Int32} {x3 qd la be ri a b d g pr : Int32} {hs fg qu r : Nat → Int32} {N : Prop} (hb : vp_in (x3 + 1) L) (hC : CR n q qd la be ri a b d g pr hs fg qu r) (hN : N) : P_T260 L xs x3 fg r N := by
  unfold P_T260
  refine ⟨hb, ?_⟩
  generalize xs (Int32.toNatClampNeg (x3 + 1)) = z
  unfold P_X7_table P_X8_table
  rcases on_off z (n := 5) (by omega) with h | ⟨j, hj, rfl⟩
  · exact sp_figOff h (if00 (sp_inOff (m := 4) (by omega) rfl h (if00 (eqN hN))))
  · refine sp_figOn hj (if10 ⟨vp_in_nI (by omega) (by omega), sp_inOn (m := 4) (by omega) rfl hj (if10 ?_)⟩)
    rw [show (8 : Int32) = nI 8 from rfl, nI_add, nI_clamp (by omega : j < 2 ^ 31), nI_clamp (by omega : 8 + j < 2 ^ 31)]
    exact ⟨vp_in_nI (by omega) (by omega), eqN2 (hC.1.2.1 j hj) hN⟩
-- what was seen
def R_see (co : Int32) (sd sl sh : Nat → Int32) (mc : Int32) (md ml mh : Nat → Int32) : Prop := ∃ s, s ≤ 6 ∧ co = nI s ∧ mc = nI s ∧ ∀ i, i < s → sd i = md i ∧ sl i = ml i ∧ sh i = mh i ∧ (∃ v, v < 8 ∧ sd i = nI v) ∧ ∃ v, v ≤ 8 ∧ sl i = nI v
theorem sp_see7 {n s : Nat} (hn : n ≤ 8) (hs : s ≤ 6) {z1 z2 z3 : Int32} {sd sl sh : Nat → Int32} {K : Int32 → Int32 → (Nat → Int32) → (Nat → Int32) → (Nat → Int32) → Prop}
    (hunk : off z1 n → K (-1) (nI s) sd sl sh) (hbad : ∀ j1, j1 < n → z1 = nI j1 → (off z2 9 ∨ ((∃ j2, j2 < 9 ∧ z2 = nI j2) ∧ off z3 1000)) → K (-2) (nI s) sd sl sh)
    (hok : ∀ j1 j2 j3, j1 < n → j2 < 9 → j3 < 1000 → z1 = nI j1 → z2 = nI j2 → z3 = nI j3 → (s = 6 → K (-4) (nI s) sd sl sh) ∧ (s < 6 → K (nI (s + 1)) (nI (s + 1)) (upd sd s z1) (upd sl s z2) (upd sh s z3))) : P_X7_see z1 z2 z3 (nI n) (nI s) sd sl sh K := by
  unfold P_X7_see
  rcases on_off z1 (n := n) (by omega) with h | ⟨j1, hj1, rfl⟩
  · exact sp_hasDotOff h (if00' (hunk h))
  · refine sp_hasDotOn hn hj1 (if10' ?_)
    rcases on_off z2 (n := 9) (by omega) with h | ⟨j2, hj2, rfl⟩
    · have dn := hbad j1 hj1 rfl (Or.inl h)
      refine ⟨fun _ => dn, fun q => ⟨fun _ => dn, fun z => ?_⟩⟩
      rcases h with h | h
      · exact absurd h q
      · exact absurd (Int32.lt_of_lt_of_le (by decide) h) z
    · refine br_f (nI_pos (by omega)) (br_f (by rw [show (8 : Int32) = nI 8 from rfl]; exact nI_nlt (by omega) (by omega)) ?_)
      rcases on_off z3 (n := 1000) (by omega) with h | ⟨j3, hj3, rfl⟩
      · have dn := hbad j1 hj1 rfl (Or.inr ⟨⟨j2, hj2, rfl⟩, h⟩)
        refine ⟨fun _ => dn, fun q => ⟨fun z => ?_, fun _ => dn⟩⟩
        rcases h with h | h
        · exact absurd h q
        · exact absurd z (Int32.not_le.mpr (Int32.lt_of_lt_of_le (by decide) h))
      · refine br_f (nI_pos (by omega)) (br_t (by rw [show (999 : Int32) = nI 999 from rfl]; exact nI_le (by omega) (by omega)) ?_)
        obtain ⟨k1, k2⟩ := hok j1 j2 j3 hj1 hj2 hj3 rfl rfl rfl
        unfold P_X3_append
        by_cases h6 : s = 6
        · subst h6
          exact br_f (by decide) (if00 (k1 rfl))
        · refine br_t (by rw [show (6 : Int32) = nI 6 from rfl]; exact nI_lt (by omega) (by omega)) ⟨vp_in_nI (by omega) (by omega), if10 ?_⟩
          rw [nI_1, nI_clamp (by omega)]
          exact k2 (by omega)
theorem rt_see {L n : Nat} (h1 : 1 ≤ n) (hn : n ≤ 8) {xs : Nat → Int32} {x3 co mc : Int32} {sd sl sh md ml mh : Nat → Int32} {N : Int32 → (Nat → Int32) → (Nat → Int32) → (Nat → Int32) → Int32 → (Nat → Int32) → (Nat → Int32) → (Nat → Int32) → Prop} (hb1 : vp_in (x3 + 1) L) (hb2 : vp_in (x3 + 2) L) (hb3 : vp_in (x3 + 3) L) (hR : R_see co sd sl sh mc md ml mh) (hN : ∀ co' sd' sl' sh' mc' md' ml' mh', R_see co' sd' sl' sh' mc' md' ml' mh' → N co' sd' sl' sh' mc' md' ml' mh') : P_T573 L xs x3 (nI n) co sd sl sh (nI n) mc md ml mh N := by
  unfold P_T573
  refine ⟨hb1, hb2, hb3, ?_⟩
  generalize xs (Int32.toNatClampNeg (x3 + 1)) = z1
  generalize xs (Int32.toNatClampNeg (x3 + 2)) = z2
  generalize xs (Int32.toNatClampNeg (x3 + 3)) = z3
  obtain ⟨s, hs, e1, e2, hle⟩ := id hR
  subst e1; subst e2
  have hNR := hN _ _ _ _ _ _ _ _ hR
  refine sp_see7 hn hs (fun h => ?_) (fun j1 hj1 ez h => ?_) (fun j1 j2 j3 hj1 hj2 hj3 ez1 ez2 ez3 => ⟨fun h6 => ?_, fun h6 => ?_⟩)
  · unfold P_X8_see
    exact sp_isDotOff h1 hn h (if00' (eqN hNR))
  · subst ez
    unfold P_X8_see
    refine sp_isDotOn h1 hn hj1 (if10' ?_)
    rcases h with h | ⟨⟨j2, hj2, rfl⟩, h⟩
    · exact sp_inOff (m := 8) (by omega) rfl h (if00 (eqN hNR))
    · exact sp_inOn (m := 8) (by omega) rfl hj2 (if10 (sp_inOff (m := 999) (by omega) rfl h (if00' (eqN hNR))))
  · subst ez1; subst ez2; subst ez3; subst h6
    unfold P_X8_see
    exact sp_isDotOn h1 hn hj1 (if10' (sp_inOn (m := 8) (by omega) rfl hj2 (if10 (sp_inOn (m := 999) (by omega) rfl hj3 (if10' ⟨fun q => absurd rfl q, fun _ => eqN hNR⟩)))))
  · subst ez1; subst ez2; subst ez3
    unfold P_X8_see
    refine sp_isDotOn h1 hn hj1 (if10' (sp_inOn (m := 8) (by omega) rfl hj2 (if10 (sp_inOn (m := 999) (by omega) rfl hj3 (if10' ⟨fun _ => ⟨vp_in_nI h6 (by omega), ?_⟩, fun q => ?_⟩)))))
    · rw [nI_1, nI_clamp (by omega)]
      refine eqN (hN _ _ _ _ _ _ _ _ ⟨s + 1, by omega, rfl, rfl, fun i hi => ?_⟩)
      simp only [upd_at]
      by_cases h : i = s
      · simp only [if_pos h]; exact ⟨trivial, trivial, trivial, ⟨j1, by omega, rfl⟩, j2, by omega, rfl⟩
      · simp only [if_neg h]; exact hle i (by omega)
    · rw [show (6 : Int32) = nI 6 from rfl] at q
      exact absurd ((nI_eq (by omega) (by omega)).mp q) (by omega)
theorem rt_unsee {L : Nat} {xs : Nat → Int32} {x3 co mc : Int32} {sd sl sh md ml mh : Nat → Int32} {N : Int32 → Int32 → Prop} (hR : R_see co sd sl sh mc md ml mh) (hN : ∀ co' mc', R_see co' sd sl sh mc' md ml mh → N co' mc') : P_T616 L xs x3 co mc N := by
  obtain ⟨s, hs, e1, e2, hle⟩ := id hR
  subst e1; subst e2
  exact eqN (hN _ _ ⟨0, by omega, rfl, rfl, fun i hi => absurd hi (by omega)⟩)
