/-! ===== pure rows: set, seed, ahead, slots ===== -/
theorem rt_seed {L : Nat} {xs : Nat → Int32} {x3 : Int32} {s : Int64} {N : Int64 → Int64 → Prop} (hb1 : vp_in (x3 + 1) L) (hb2 : vp_in (x3 + 2) L) (hN : ∀ v, N v v) : P_T750 L xs x3 s s N := by
  unfold P_T750
  refine ⟨hb1, hb2, ?_⟩
  have e : lg_cmp s s = 0 := by
    unfold lg_cmp
    rw [if_neg (show ¬ s > s from Int64.lt_irrefl), if_pos rfl]
  exact ⟨fun _ => hN _, fun q => q e⟩
-- a figure told
def mt (fg : Nat → Int32) (i : Nat) (v : Int32) : Prop := (if i = 4 then 0 else fg (i + 1)) ≤ v ∧ v ≤ (if i = 0 then 9 else fg (i - 1))
theorem sp_mayTell {b2 : Int32} {j : Nat} (hj : j < 5) {fg : Nat → Int32} {K : Int32 → Prop} (h1 : mt fg j b2 → K 1) (h0 : ¬ mt fg j b2 → K 0) : P_X5_mayTell (nI j) b2 fg K := by
  unfold P_X5_mayTell
  refine sp_figOn hj (if10' ?_)
  have go : ∀ lo hi : Int32, (mt fg j b2 ↔ (lo ≤ b2 ∧ b2 ≤ hi)) → (b2 < lo → K 0) ∧ (¬ b2 < lo → ((hi < b2 → K 0) ∧ (¬ hi < b2 → K 1))) := by
    intro lo hi he
    refine ⟨fun q => h0 (fun z => absurd q (Int32.not_lt.mpr (he.mp z).1)), fun q => ⟨fun z => h0 (fun y => absurd z (Int32.not_lt.mpr (he.mp y).2)), fun z => h1 (he.mpr ⟨Int32.not_lt.mp q, Int32.not_lt.mp z⟩)⟩⟩
  by_cases hj0 : j = 0
  · subst hj0
    refine ⟨fun q => absurd rfl q, fun _ => ⟨fun _ => ⟨vp_lit (by decide), ?_⟩, fun q => absurd q (by decide)⟩⟩
    exact go (fg 1) 9 Iff.rfl
  · refine ⟨fun _ => ?_, fun q => absurd q (nI_ne0 (by omega) (by omega))⟩
    obtain ⟨i, rfl⟩ : ∃ i, j = i + 1 := ⟨j - 1, by omega⟩
    rw [nI_pred, nI_clamp (by omega : i < 2 ^ 31)]
    refine ⟨vp_in_nI (by omega) (by omega), fun q => ?_, fun q => ?_⟩
    · have hi4 : ¬ i + 1 = 4 := fun e => q (by rw [e]; rfl)
      rw [nI_1, nI_clamp (by omega : i + 1 + 1 < 2 ^ 31)]
      refine ⟨vp_in_nI (by omega) (by omega), go (fg (i + 1 + 1)) (fg i) ?_⟩
      unfold mt
      rw [if_neg hi4, if_neg (by omega)]
      exact Iff.rfl
    · have hi4 : i + 1 = 4 := by
        rw [show (4 : Int32) = nI 4 from rfl] at q
        exact (nI_eq (by omega) (by omega)).mp q
      refine go 0 (fg i) ?_
      unfold mt
      rw [if_pos hi4, if_neg (by omega)]
      exact Iff.rfl
theorem sp_in3 {b lo hi : Int32} {K : Int32 → Prop} (h1 : lo ≤ b ∧ b ≤ hi → K 1) (h0 : ¬ (lo ≤ b ∧ b ≤ hi) → K 0) : P_X8_in b.toInt64 lo.toInt64 hi.toInt64 K := by
  by_cases h : lo ≤ b
  · by_cases h2 : b ≤ hi
    · exact sp_inY ((wide_le _ _).mpr h) ((wide_le _ _).mpr h2) (h1 ⟨h, h2⟩)
    · exact sp_inN (Or.inr ((wide_lt _ _).mpr (Int32.not_le.mp h2))) (h0 (fun z => h2 z.2))
  · exact sp_inN (Or.inl ((wide_lt _ _).mpr (Int32.not_le.mp h))) (h0 (fun z => h z.1))
theorem sp_maySet {b2 : Int32} {j : Nat} (hj : j < 5) {r : Nat → Int32} {K : Int32 → Prop} (h1 : mt (fun i => r (8 + i)) j b2 → K 1) (h0 : ¬ mt (fun i => r (8 + i)) j b2 → K 0) : P_X8_maySet (nI j) b2 r K := by
  unfold P_X8_maySet
  refine sp_inOn (m := 4) (by omega) rfl hj (if10 ?_)
  rw [show (8 : Int32) = nI 8 from rfl, nI_add, nI_1, nI_clamp (by omega : 8 + j + 1 < 2 ^ 31)]
  have two : ∀ (lo hi : Int32), (mt (fun i => r (8 + i)) j b2 ↔ (lo ≤ b2 ∧ b2 ≤ hi)) → P_X8_in b2.toInt64 lo.toInt64 hi.toInt64 (fun r4 => ((r4 = (0 : Int32) → K (0 : Int32)) ∧ (¬ r4 = (0 : Int32) → K (1 : Int32)))) :=
    fun lo hi he => sp_in3 (fun z => if10 (h1 (he.mpr z))) (fun z => if00 (h0 (fun y => z (he.mp y))))
  have z0 : (0 : Int64) = (0 : Int32).toInt64 := by decide
  have z9 : (9 : Int64) = (9 : Int32).toInt64 := by decide
  by_cases hj0 : j = 0
  · subst hj0
    refine ⟨fun _ => ⟨vp_lit (by decide), fun q => absurd rfl q, fun _ => ?_⟩, fun q => absurd q (by decide)⟩
    rw [z9]
    exact two (r (8 + 0 + 1)) 9 Iff.rfl
  · have hne0 : ¬ nI j = 0 := nI_ne0 (by omega) (by omega)
    have e1 : nI (8 + j) - 1 = nI (8 + (j - 1)) := by rw [show 8 + j = (8 + (j - 1)) + 1 by omega, nI_pred]
    rw [e1, nI_clamp (by omega : 8 + (j - 1) < 2 ^ 31)]
    by_cases hj4 : j = 4
    · subst hj4
      refine ⟨fun q => absurd rfl q, fun _ => ⟨fun _ => ⟨vp_lit (by decide), ?_⟩, fun q => absurd q (by decide)⟩⟩
      rw [z0]
      exact two 0 (r (8 + (4 - 1))) Iff.rfl
    · refine ⟨fun _ => ⟨vp_in_nI (by omega) (by omega), fun _ => ⟨vp_in_nI (by omega) (by omega), ?_⟩, fun q => absurd q hne0⟩, fun q => ?_⟩
      · refine two (r (8 + j + 1)) (r (8 + (j - 1))) ?_
        unfold mt
        rw [if_neg hj4, if_neg hj0]
        exact Iff.rfl
      · rw [show (4 : Int32) = nI 4 from rfl] at q
        exact absurd ((nI_eq (by omega) (by omega)).mp q) hj4
theorem mt_row {n q : Nat} {qd la be ri a b d g pr : Int32} {hs fg qu r : Nat → Int32} (hC : CR n q qd la be ri a b d g pr hs fg qu r) {j : Nat} (hj : j < 5) (v : Int32) : mt (fun i => r (8 + i)) j v ↔ mt fg j v := by
  unfold mt
  by_cases h4 : j = 4
  · rw [if_pos h4, if_pos h4]
    by_cases h0 : j = 0
    · rw [if_pos h0, if_pos h0]
    · rw [if_neg h0, if_neg h0, hC.1.2.1 (j - 1) (by omega)]
  · rw [if_neg h4, if_neg h4, hC.1.2.1 (j + 1) (by omega)]
    by_cases h0 : j = 0
    · rw [if_pos h0, if_pos h0]
    · rw [if_neg h0, if_neg h0, hC.1.2.1 (j - 1) (by omega)]
theorem CR.fig {n q j : Nat} (hj : j < 5) {v qd la be ri a b d g pr : Int32} {hs fg qu r : Nat → Int32} (h : CR n q qd la be ri a b d g pr hs fg qu r) (hm : mt fg j v) : CR n q qd la be ri a b d g pr hs (upd fg j v) qu (upd r (8 + j) v) := by
  obtain ⟨⟨p1, p2, p3, p4, p5, p6, p7, p8, p9⟩, eqd, hq8, e21, hqu, e24, hri, hz, hF1, hF2⟩ := h
  have u : ∀ k, ¬ k = 8 + j → upd r (8 + j) v k = r k := fun k hk => by rw [upd_at, if_neg hk]
  have hv : ∃ t, t ≤ 9 ∧ v = nI t := by
    have hlo : (0 : Int32) ≤ v := by
      refine Int32.le_trans ?_ hm.1
      by_cases h4 : j = 4
      · rw [if_pos h4]; decide
      · rw [if_neg h4]
        obtain ⟨t, ht, e⟩ := hF1 (j + 1) (by omega)
        rw [e]; exact nI_pos' (by omega)
    have hhi : v ≤ 9 := by
      refine Int32.le_trans hm.2 ?_
      by_cases h0 : j = 0
      · rw [if_pos h0]; decide
      · rw [if_neg h0]
        obtain ⟨t, ht, e⟩ := hF1 (j - 1) (by omega)
        rw [e, show (9 : Int32) = nI 9 from rfl]; exact nI_le ht (by omega)
    obtain ⟨t, ht, e⟩ := nI_of2 (M := 9) (n := 9) (by decide) (Int32.not_lt.mpr hlo) hhi
    exact ⟨t, ht, e⟩
  refine ⟨⟨fun k hk => (p1 k hk).trans (u k (by omega)).symm, fun i hi => ?_, (u _ (by omega)).trans p3, (u _ (by omega)).trans p4, (u _ (by omega)).trans p5, (u _ (by omega)).trans p6, (u _ (by omega)).trans p7, (u _ (by omega)).trans p8, (u _ (by omega)).trans p9⟩, eqd, hq8, (u _ (by omega)).trans e21, fun i hi => ⟨(hqu i hi).1.trans (u _ (by omega)).symm, (hqu i hi).2⟩, (u _ (by omega)).trans e24, hri, hz, fun i hi => ?_, fun i hi => ?_⟩
  · rw [upd_at fg, upd_at r]
    by_cases h : i = j
    · rw [if_pos h, if_pos (by omega)]
    · rw [if_neg h, if_neg (by omega)]; exact p2 i hi
  · rw [upd_at]
    by_cases h : i = j
    · rw [if_pos h]; exact hv
    · rw [if_neg h]; exact hF1 i hi
  · rw [upd_at, upd_at]
    by_cases h : i = j
    · subst h
      rw [if_neg (by omega), if_pos rfl]
      have := hm.1
      rw [if_neg (by omega)] at this
      exact this
    · by_cases h2 : i + 1 = j
      · subst h2
        rw [if_pos rfl, if_neg h]
        have := hm.2
        rw [if_neg (by omega)] at this
        exact this
      · rw [if_neg h2, if_neg h]; exact hF2 i hi
theorem sp_mayTellOff {b1 b2 : Int32} (h : off b1 5) {fg : Nat → Int32} {K : Int32 → Prop} (hK : K 0) : P_X5_mayTell b1 b2 fg K := by
  unfold P_X5_mayTell
  exact sp_figOff h (if00' hK)
theorem sp_maySetOff {b1 b2 : Int32} (h : off b1 5) {r : Nat → Int32} {K : Int32 → Prop} (hK : K 0) : P_X8_maySet b1 b2 r K := by
  unfold P_X8_maySet
  exact sp_inOff (m := 4) (by omega) rfl h (if00 hK)
theorem rt_set {L n q : Nat} (hn : n ≤ 8) {xs : Nat → Int32} {x3 qd la be ri aa b d g pr fi co ma mx : Int32} {hs fg qu r di : Nat → Int32} {H F Q I : Nat → Nat → Int32} {N : (Nat → Int32) → Int32 → Int32 → Int32 → Int32 → (Nat → Int32) → (Nat → Int32) → (Nat → Nat → Int32) → (Nat → Nat → Int32) → (Nat → Nat → Int32) → (Nat → Nat → Int32) → Prop}
    (hb1 : vp_in (x3 + 1) L) (hb2 : vp_in (x3 + 2) L) (hC : CR n q qd la be ri aa b d g pr hs fg qu r) (hA : R_acts n fi co H F Q I ma mx di) (hz30 : Z30 r)
    (hN : ∀ fg' fi' co' ma' mx' r' di' H' F' Q' I', Z30 r' → CR n q qd la be ri aa b d g pr hs fg' qu r' → R_acts n fi' co' H' F' Q' I' ma' mx' di' → N fg' fi' co' ma' mx' r' di' H' F' Q' I') :
    P_T385 L xs x3 qd la be ri aa b d g pr hs fg qu fi co ma mx r di H F Q I N := by
  unfold P_T385
  refine ⟨hb1, hb2, ?_⟩
  generalize xs (Int32.toNatClampNeg (x3 + 1)) = z1
  generalize xs (Int32.toNatClampNeg (x3 + 2)) = z2
  have hNR := hN _ _ _ _ _ _ _ _ _ _ _ hz30 hC hA
  obtain ⟨a, f, x, ha, hf, hx, e1, e2, e3, e4, hR⟩ := id hA
  subst e1; subst e2; subst e3; subst e4
  unfold P_X7_set
  rcases on_off z1 (n := 5) (by omega) with h | ⟨j, hj, rfl⟩
  · refine sp_mayTellOff h (if00' ?_)
    unfold P_X8_set
    exact sp_maySetOff h (if00' (eqN hNR))
  · refine sp_mayTell hj (fun hm => if10' (sp_remember hf ha ⟨vp_in_nI hj (by omega), ?_⟩)) (fun hm => if00' ?_)
    · unfold P_X8_set
      refine sp_maySet hj (fun _ => if10' (sp_note hx ha ?_)) (fun z => absurd ((mt_row hC hj z2).mpr hm) z)
      rw [show (8 : Int32) = nI 8 from rfl, nI_add, nI_clamp (by omega : j < 2 ^ 31), nI_clamp (by omega : 8 + j < 2 ^ 31)]
      exact ⟨vp_in_nI (by omega) (by omega), eqN2 (hC.1.2.1 j hj) (hN _ _ _ _ _ _ _ _ _ _ _ (hz30.upd (by omega) _) (hC.fig hj hm) (acts_push hn ha hf hx hR hC))⟩
    · unfold P_X8_set
      exact sp_maySet hj (fun z => absurd ((mt_row hC hj z2).mp z) hm) (fun _ => if00' (eqN hNR))
-- ahead
theorem sp_heatBehind {n q k j : Nat} (hn : n ≤ 8) (hk : k ≤ 9) (hj : j < 8) {dd c lo hi gh qd la be ri a b d g pr tq tl tb' tr ta tp td tg tn : Int32} {p hs fg qu th tf tu r : Nat → Int32} (hC : CR n q qd la be ri a b d g pr hs fg qu r) {K : Int32 → (Nat → Int32) → Int32 → Int32 → Int32 → Int32 → Int32 → Int32 → Int32 → Int32 → Int32 → (Nat → Int32) → (Nat → Int32) → (Nat → Int32) → Prop}
    (hK : ∀ p' a1 a2 a3 a4 a5 a6 a7 a8 a9 f1 f2 f3, K ((prLs n c lo hi gh dd k r).2 j) p' a1 a2 a3 a4 a5 a6 a7 a8 a9 f1 f2 f3) : P_X7_heatBehind (nI k) (nI j) dd (nI n) c lo hi gh p qd la be ri a b d g pr hs fg qu tq tl tb' tr ta tp td tg tn th tf tu K := by
  unfold P_X7_heatBehind P_X5_copyFrom
  refine sp_printSome hn hk (hC.cpy hn) ?_
  intro q' p' qd' la' be' ri' a' b' d' g' pr' hs' qu' hC'
  refine ⟨vp_in_nI hj (by omega), ?_⟩
  rw [nI_clamp (by omega), hC'.1.1 j hj]
  exact hK _ _ _ _ _ _ _ _ _ _ _ _ _
theorem rt_ahead {L n q : Nat} (h1 : 1 ≤ n) (hn : n ≤ 8) {xs : Nat → Int32} {x3 c lo hi gh qd la be ri a b d g pr tq tl tb' tr ta tp td tg tn : Int32} {p hs fg qu th tf tu r mt' mp : Nat → Int32} {N : (Nat → Int32) → Int32 → Int32 → Int32 → Int32 → Int32 → Int32 → Int32 → Int32 → Int32 → (Nat → Int32) → (Nat → Int32) → (Nat → Int32) → (Nat → Int32) → (Nat → Int32) → Prop}
    (hb1 : vp_in (x3 + 1) L) (hb2 : vp_in (x3 + 2) L) (hC : CR n q qd la be ri a b d g pr hs fg qu r) (hz : Z30 r) (hzt : Z30 mt')
    (hN : ∀ p' a1 a2 a3 a4 a5 a6 a7 a8 a9 f1 f2 f3 t' mp', Z30 t' → N p' a1 a2 a3 a4 a5 a6 a7 a8 a9 f1 f2 f3 t' mp') :
    P_T454 L xs x3 (nI n) c lo hi gh p qd la be ri a b d g pr hs fg qu tq tl tb' tr ta tp td tg tn th tf tu (nI n) c lo hi gh 0 r mt' mp N := by
  unfold P_T454
  refine ⟨hb1, hb2, ?_⟩
  generalize xs (Int32.toNatClampNeg (x3 + 1)) = z1
  generalize xs (Int32.toNatClampNeg (x3 + 2)) = z2
  have hNR := hN p tq tl tb' tr ta tp td tg tn th tf tu mt' mp hzt
  unfold P_X7_ahead
  rcases on_off z2 (n := n) (by omega) with h | ⟨j, hj, rfl⟩
  · refine sp_hasDotOff h (if00' ?_)
    unfold P_X8_ahead
    exact sp_isDotOff h1 hn h (if00' (eqN hNR))
  · refine sp_hasDotOn hn hj (if10' ?_)
    have bad : off z1 10 → P_X8_ahead z1 (nI j) (nI n) c lo hi gh 0 r mt' mp (fun r229 t230 p231 => (((-2 : Int32) = r229 → N p tq tl tb' tr ta tp td tg tn th tf tu t230 p231) ∧ (¬ (-2 : Int32) = r229 → False))) := by
      intro h
      unfold P_X8_ahead
      exact sp_isDotOn h1 hn hj (if10' (sp_inOff (m := 9) (by omega) rfl h (if00' (eqN hNR))))
    rcases on_off z1 (n := 10) (by omega) with h | ⟨k, hk, rfl⟩
    · refine ⟨fun _ => bad h, fun q => ⟨fun y => ?_, fun _ => bad h⟩⟩
      rcases h with h | h
      · exact absurd h q
      · exact absurd y (Int32.not_le.mpr (Int32.lt_of_lt_of_le (by decide) h))
    · refine br_f (nI_pos (by omega)) (br_t (by rw [show (9 : Int32) = nI 9 from rfl]; exact nI_le (by omega) (by omega)) (sp_heatBehind hn (by omega) (by omega) hC ?_))
      intro p' a1 a2 a3 a4 a5 a6 a7 a8 a9 f1 f2 f3
      unfold P_X8_ahead
      refine sp_isDotOn h1 hn hj (if10' (sp_inOn (m := 9) (by omega) rfl hk (if10' (sp_copy ?_))))
      rw [cp_eq hz hzt]
      refine sp_printLines hn (by omega) hC.2.2.1 hC.2.2.2.1 ?_
      intro mp'
      refine ⟨vp_in_nI (by omega) (by omega), ?_⟩
      rw [nI_clamp (by omega)]
      exact eqN (hN _ _ _ _ _ _ _ _ _ _ _ _ _ _ _ (Z30.prLs hn _ _ _ hC.2.2.1 hC.2.2.2.1 hz))
