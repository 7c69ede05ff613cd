/-! ===== pure rows: put, print, pause, set, ribbon, undo ===== -/
theorem all_c : ∀ n, n < 9 → ((1 : Int32) <<< (nI n &&& 31)) - 1 = nI (2 ^ n - 1) := by decide +kernel
theorem pow_pos2 (n : Nat) : 0 < 2 ^ n := Nat.pow_pos (by decide)
theorem sp_hasDotsOff {b : Int32} {n : Nat} (hn : n ≤ 8) (h : off b (2 ^ n)) {K : Int32 → Prop} (hK : K 0) : P_X1_hasDots b (nI n) K := by
  unfold P_X1_hasDots P_X1_allDots
  rw [all_c n (by omega)]
  have h8 := two_pow_8 hn
  have hp := pow_pos2 n
  refine ⟨fun _ => hK, fun q => ⟨fun _ => hK, fun z => ?_⟩⟩
  rcases h with h | h
  · exact absurd h q
  · exact absurd (Int32.lt_of_lt_of_le (nI_lt (by omega) (by omega)) h) z
theorem sp_hasDotsOn {v n : Nat} (hn : n ≤ 8) (h : v < 2 ^ n) {K : Int32 → Prop} (hK : K 1) : P_X1_hasDots (nI v) (nI n) K := by
  unfold P_X1_hasDots P_X1_allDots
  rw [all_c n (by omega)]
  have h8 := two_pow_8 hn
  exact br_f (nI_pos (by omega)) (br_f (nI_nlt (by omega) (by omega)) hK)
theorem sp_isLineOff {b : Int32} {n : Nat} (hn : n ≤ 8) (h : off b (2 ^ n)) {K : Int32 → Prop} (hK : K 0) : P_X8_isLine b (nI n) K := by
  unfold P_X8_isLine
  have h8 := two_pow_8 hn
  have hp := pow_pos2 n
  rw [all_c n (by omega), nI_l (by omega)]
  exact sp_inOff (m := 2 ^ n - 1) (by omega) rfl (by rw [Nat.sub_add_cancel hp]; exact h) ⟨bool0, hK⟩
theorem sp_isLineOn {v n : Nat} (hn : n ≤ 8) (h : v < 2 ^ n) {K : Int32 → Prop} (hK : K 1) : P_X8_isLine (nI v) (nI n) K := by
  unfold P_X8_isLine
  have h8 := two_pow_8 hn
  rw [all_c n (by omega), nI_l (n := 2 ^ n - 1) (by omega)]
  exact sp_inOn (m := 2 ^ n - 1) (by omega) rfl (by omega) ⟨bool1, hK⟩
theorem CR.put {n q v : Nat} (hq : q < 8) (hv : v < 2 ^ n) {qd la be ri a b d g pr : Int32} {hs fg qu r : Nat → Int32} (h : CR n q qd la be ri a b d g pr hs fg qu r) : CR n (q + 1) (nI (q + 1)) la be ri a b d g pr hs fg (upd qu q (nI v)) (upd (upd r (13 + q) (nI v)) 21 (nI (q + 1))) := by
  obtain ⟨h1, eqd, hq8, e21, hqu, e24, hri, hz, hF⟩ := h
  refine ⟨h1.kept (fun k hk hk2 => by rw [upd_at, if_neg (by omega), upd_at, if_neg (by omega)]), rfl, by omega, rfl, fun i hi => ?_, by rw [upd_at, if_neg (by omega), upd_at, if_neg (by omega)]; exact e24, hri, hz, hF⟩
  have e1 : upd (upd r (13 + q) (nI v)) 21 (nI (q + 1)) (13 + i) = if i = q then nI v else r (13 + i) := by
    rw [upd_at _ 21, if_neg (by omega), upd_at _ (13 + q)]
    by_cases h : i = q
    · rw [if_pos h, if_pos (by omega)]
    · rw [if_neg h, if_neg (by omega)]
  rw [e1, upd_at qu q]
  by_cases h : i = q
  · rw [if_pos h, if_pos h]; exact ⟨rfl, v, hv, rfl⟩
  · rw [if_neg h, if_neg h]; exact hqu i (by omega)
theorem sp_put7 {n q a f : Nat} (hn : n ≤ 8) (hq : q ≤ 8) (hf : f < 14) (ha : a ≤ 14) {z la be ri aa b d g pr : Int32} {hs fg qu : Nat → Int32} {H F Q I : Nat → Nat → Int32} {K : Int32 → Int32 → (Nat → Int32) → Int32 → Int32 → (Nat → Nat → Int32) → (Nat → Nat → Int32) → (Nat → Nat → Int32) → (Nat → Nat → Int32) → Prop}
    (hbad : off z (2 ^ n) → K (-2) (nI q) qu (nI f) (nI a) H F Q I) (hfull : q = 8 → (∃ v, v < 2 ^ n ∧ z = nI v) → K (-4) (nI q) qu (nI f) (nI a) H F Q I)
    (hok : ∀ v, v < 2 ^ n → z = nI v → q < 8 → K (nI (q + 1)) (nI (q + 1)) (upd qu q (nI v)) (nI (rmF f a)) (nI (rmA a)) (va_up H ((f + a) % 14) (va_cpy hs (H ((f + a) % 14)) 0 0 8)) (va_up F ((f + a) % 14) (va_cpy fg (F ((f + a) % 14)) 0 0 5)) (va_up Q ((f + a) % 14) (va_cpy qu (Q ((f + a) % 14)) 0 0 8)) (va_up I ((f + a) % 14) (g_i9 (nI q) la be ri aa b d g pr))) :
    P_X7_put z (nI n) (nI q) la be ri aa b d g pr hs fg qu (nI f) (nI a) H F Q I K := by
  unfold P_X7_put
  have h8 := two_pow_8 hn
  rcases on_off z (n := 2 ^ n) (by omega) with h | ⟨v, hv, rfl⟩
  · exact sp_hasDotsOff hn h (if00' (hbad h))
  · refine sp_hasDotsOn hn hv (if10' ?_)
    unfold P_X5_isFull
    by_cases h8' : q < 8
    · refine br_t (by rw [show (8 : Int32) = nI 8 from rfl]; exact nI_lt h8' (by omega)) (if00 (sp_remember hf ha ?_))
      unfold P_X5_append
      refine br_f (by rw [show (8 : Int32) = nI 8 from rfl]; exact nI_ge h8' (by omega)) ⟨vp_in_nI h8' (by omega), ?_⟩
      rw [nI_1, nI_clamp (by omega)]
      exact hok v hv rfl h8'
    · have e : q = 8 := by omega
      subst e
      exact br_f (by decide) (if10 (hfull rfl ⟨v, hv, rfl⟩))
theorem rt_put {L n q : Nat} (hn : n ≤ 8) {xs : Nat → Int32} {x3 qd la be ri aa b d g pr fi co ma mx : Int32} {hs fg qu r di : Nat → Int32} {H F Q I : Nat → Nat → Int32} {N : Int32 → (Nat → Int32) → Int32 → Int32 → Int32 → Int32 → (Nat → Int32) → (Nat → Int32) → (Nat → Nat → Int32) → (Nat → Nat → Int32) → (Nat → Nat → Int32) → (Nat → Nat → Int32) → Prop}
    (hb : vp_in (x3 + 1) L) (hC : CR n q qd la be ri aa b d g pr hs fg qu r) (hA : R_acts n fi co H F Q I ma mx di)
    (hz30 : Z30 r) (hN : ∀ q' qd' qu' fi' co' ma' mx' r' di' H' F' Q' I', Z30 r' → CR n q' qd' la be ri aa b d g pr hs fg qu' r' → R_acts n fi' co' H' F' Q' I' ma' mx' di' → N qd' qu' fi' co' ma' mx' r' di' H' F' Q' I') :
    P_T316 L xs x3 (nI n) qd la be ri aa b d g pr hs fg qu fi co (nI n) ma mx r di H F Q I N := by
  unfold P_T316
  refine ⟨hb, ?_⟩
  generalize xs (Int32.toNatClampNeg (x3 + 1)) = z
  have hNR := hN _ _ _ _ _ _ _ _ _ _ _ _ _ hz30 hC hA
  obtain ⟨a, f, x, ha, hf, hx, e1, e2, e3, e4, hR⟩ := id hA
  have eqd := hC.2.1
  have hq8 := hC.2.2.1
  have e21 := hC.2.2.2.1
  subst e1; subst e2; subst e3; subst e4; subst eqd
  refine sp_put7 hn hq8 hf ha (fun h => ?_) (fun h8 hv => ?_) (fun v hv ez h8 => ?_)
  · unfold P_X8_put
    exact sp_isLineOff hn h (if00' (eqN hNR))
  · obtain ⟨v, hv, rfl⟩ := hv
    unfold P_X8_put
    refine sp_isLineOn hn hv (if10' ⟨fun q => absurd ?_ q, fun _ => eqN hNR⟩)
    rw [tn21, e21, h8]
    rfl
  · subst ez
    unfold P_X8_put
    refine sp_isLineOn hn hv (if10' ⟨fun _ => ?_, fun q => absurd q ?_⟩)
    · refine sp_note hx ha ?_
      unfold P_X8_putOn
      rw [tn21, e21, show (13 : Int32) = nI 13 from rfl, nI_add, nI_clamp (by omega)]
      refine ⟨vp_in_nI (by omega) (by omega), ?_⟩
      have e : upd r (13 + q) (nI v) 21 = nI q := by rw [upd_at, if_neg (by omega)]; exact e21
      rw [e, nI_1]
      refine eqN2 (by rw [upd_at, if_pos rfl]) ?_
      exact hN _ _ _ _ _ _ _ _ _ _ _ _ _ ((hz30.upd (by omega) _).upd (by omega) _) (hC.put h8 hv) (acts_push hn ha hf hx hR hC)
    · rw [tn21, e21, show (8 : Int32) = nI 8 from rfl]
      exact fun z => absurd ((nI_eq (by omega) (by omega)).mp z) (by omega)
-- the ribbon
theorem CR.rib {n q v : Nat} (hv : v < 2 ^ 31) {qd la be ri a b d g pr : Int32} {hs fg qu r : Nat → Int32} (h : CR n q qd la be ri a b d g pr hs fg qu r) : CR n q qd la be (nI v) a b d g pr hs fg qu (upd r 24 (nI v)) := by
  obtain ⟨h1, eqd, hq8, e21, hqu, e24, hri, hz, hF⟩ := h
  refine ⟨h1.kept (fun k hk hk2 => by rw [upd_at, if_neg (by omega)]), eqd, hq8, by rw [upd_at, if_neg (by omega)]; exact e21, fun i hi => ?_, rfl, ⟨v, hv, rfl⟩, hz, hF⟩
  rw [upd_at, if_neg (by omega)]
  exact hqu i hi
theorem rt_ribbon {L n q : Nat} (hn : n ≤ 8) {xs : Nat → Int32} {x3 qd la be ri aa b d g pr fi co ma mx : Int32} {hs fg qu r di : Nat → Int32} {H F Q I : Nat → Nat → Int32} {N : Int32 → Int32 → Int32 → Int32 → Int32 → (Nat → Int32) → (Nat → Int32) → (Nat → Nat → Int32) → (Nat → Nat → Int32) → (Nat → Nat → Int32) → (Nat → Nat → Int32) → Prop}
    (hb : vp_in (x3 + 1) L) (hC : CR n q qd la be ri aa b d g pr hs fg qu r) (hA : R_acts n fi co H F Q I ma mx di)
    (hz30 : Z30 r) (hN : ∀ ri' fi' co' ma' mx' r' di' H' F' Q' I', Z30 r' → CR n q qd la be ri' aa b d g pr hs fg qu r' → R_acts n fi' co' H' F' Q' I' ma' mx' di' → N ri' fi' co' ma' mx' r' di' H' F' Q' I') :
    P_T418 L xs x3 qd la be ri aa b d g pr hs fg qu fi co ma mx r di H F Q I N := by
  unfold P_T418
  refine ⟨hb, ?_⟩
  generalize xs (Int32.toNatClampNeg (x3 + 1)) = z
  have hNR := hN _ _ _ _ _ _ _ _ _ _ _ hz30 hC hA
  obtain ⟨a, f, x, ha, hf, hx, e1, e2, e3, e4, hR⟩ := id hA
  subst e1; subst e2; subst e3; subst e4
  have e24 := hC.2.2.2.2.2.1
  have bad : off z 1000 → P_X8_ribbon z (nI a) (nI x) r di (fun r190 a1 a2 a3 a4 => (((-2 : Int32) = r190 → N ri (nI f) (nI a) a1 a2 a3 a4 H F Q I) ∧ (¬ (-2 : Int32) = r190 → False))) := by
    intro h
    unfold P_X8_ribbon
    exact sp_inOff (m := 999) (by omega) rfl h (if00' (eqN hNR))
  unfold P_X7_ribbon
  rcases on_off z (n := 1000) (by omega) with h | ⟨j, hj, rfl⟩
  · refine ⟨fun _ => bad h, fun q => ⟨fun y => ?_, fun _ => bad h⟩⟩
    rcases h with h | h
    · exact absurd h q
    · exact absurd y (Int32.not_le.mpr (Int32.lt_of_lt_of_le (by decide) h))
  · refine br_f (nI_pos (by omega)) (br_t (by rw [show (999 : Int32) = nI 999 from rfl]; exact nI_le (by omega) (by omega)) (sp_remember hf ha ?_))
    unfold P_X8_ribbon
    refine sp_inOn (m := 999) (by omega) rfl hj (if10' (sp_note hx ha ?_))
    rw [tn24]
    exact eqN2 e24.symm (hN _ _ _ _ _ _ _ _ _ _ _ (hz30.upd (by omega) _) (hC.rib (by omega)) (acts_push hn ha hf hx hR hC))
-- undone
theorem rt_undo {L n q : Nat} (hn : n ≤ 8) {xs : Nat → Int32} {x3 qd la be ri aa b d g pr fi co ma mx : Int32} {hs fg qu r di : Nat → Int32} {H F Q I : Nat → Nat → Int32} {N : Int32 → Int32 → Int32 → Int32 → Int32 → Int32 → Int32 → Int32 → Int32 → (Nat → Int32) → (Nat → Int32) → (Nat → Int32) → Int32 → Int32 → Int32 → (Nat → Int32) → Prop}
    (hC : CR n q qd la be ri aa b d g pr hs fg qu r) (hA : R_acts n fi co H F Q I ma mx di)
    (hz30 : Z30 r) (hN : ∀ q' qd' la' be' ri' aa' b' d' g' pr' hs' fg' qu' co' ma' mx' r', Z30 r' → CR n q' qd' la' be' ri' aa' b' d' g' pr' hs' fg' qu' r' → R_acts n fi co' H F Q I ma' mx' di → N qd' la' be' ri' aa' b' d' g' pr' hs' fg' qu' co' ma' mx' r') :
    P_T441 L xs x3 qd la be ri aa b d g pr hs fg qu fi co ma mx r di H F Q I N := by
  unfold P_T441 P_X7_undo
  have hNR := hN _ _ _ _ _ _ _ _ _ _ _ _ _ _ _ _ _ hz30 hC hA
  obtain ⟨a, f, x, ha, hf, hx, e1, e2, e3, e4, hR⟩ := id hA
  subst e1; subst e2; subst e3; subst e4
  by_cases h0 : a = 0
  · subst h0
    unfold P_X0_takeBack
    refine br_f (by decide) (if00 ?_)
    unfold P_X8_undo
    exact ⟨fun q => absurd rfl q, fun _ => eqN hNR⟩
  · obtain ⟨a', rfl⟩ : ∃ a', a = a' + 1 := ⟨a - 1, by omega⟩
    refine sp_takeBack hf (by omega) (if10 (sp_undo8 hx (by omega) (eqN ?_)))
    obtain ⟨q2, hE⟩ := hR a' (by omega)
    rw [show (x + 14 - (a' + 1) + a') % 14 = (x + 13) % 14 by congr 1; omega] at hE
    refine hN q2 _ _ _ _ _ _ _ _ _ _ _ _ _ _ _ _ hz30.cp (CR.copy hn hE) ⟨a', f, (x + 13) % 14, by omega, hf, by omega, rfl, rfl, rfl, rfl, fun j hj => ?_⟩
    have := hR j (by omega)
    rw [show ((x + 13) % 14 + 14 - a' + j) % 14 = (x + 14 - (a' + 1) + j) % 14 by omega]
    exact this
-- pausing
def rst (n : Nat) (c : Int32) (k : Nat) (f : Nat → Int32) : Nat → Int32 := itr (fun _ s => cool n c s) k f
theorem CR.cool {n q : Nat} (hn : n ≤ 8) (c : Int32) {qd la be ri a b d g pr : Int32} {hs fg qu r : Nat → Int32} (h : CR n q qd la be ri a b d g pr hs fg qu r) : CR n q qd la be ri a b d g pr (cool n c hs) fg qu (cool n c r) := by
  obtain ⟨⟨p1, p2, p3, p4, p5, p6, p7, p8, p9⟩, eqd, hq8, e21, hqu, e24, hri, hz, hF⟩ := h
  obtain ⟨c1, c2, c3⟩ := cool_ag hn c p1
  refine ⟨⟨c1, fun i hi => (p2 i hi).trans (c2 _ (by omega)).symm, (c2 _ (by omega)).trans p3, (c2 _ (by omega)).trans p4, (c2 _ (by omega)).trans p5, (c2 _ (by omega)).trans p6, (c2 _ (by omega)).trans p7, (c2 _ (by omega)).trans p8, (c2 _ (by omega)).trans p9⟩, eqd, hq8, (c2 _ (by omega)).trans e21, fun i hi => ⟨(hqu i hi).1.trans (c2 _ (by omega)).symm, (hqu i hi).2⟩, (c2 _ (by omega)).trans e24, hri, fun k h1 h2 => (c3 k h1).trans (hz k h1 h2), hF⟩
theorem CR.rests {n q : Nat} (hn : n ≤ 8) (c : Int32) (k : Nat) {qd la be ri a b d g pr : Int32} {hs fg qu r : Nat → Int32} (h : CR n q qd la be ri a b d g pr hs fg qu r) : CR n q qd la be ri a b d g pr (rst n c k hs) fg qu (rst n c k r) := by
  unfold rst
  exact itr_rel (fun s t => CR n q qd la be ri a b d g pr s fg qu t) h k (fun _ s t _ hst => hst.cool hn c)
theorem sp_rest {n k : Nat} (hn : n ≤ 8) (hk : k < 2 ^ 31) {c : Int32} {f : Nat → Int32} {K : (Nat → Int32) → Prop} (hK : K (rst n c k f)) : P_X1_rest (nI k) (nI n) c f K := by
  unfold P_X1_rest
  refine cnt_itr (P := fun fu i s => P_X1_rest_L2 (nI n) c (nI k) (fun v => K v) fu i s) k hk (fun _ s => cool n c s) f ?_ ?_
  · intro fu
    unfold P_X1_rest_L2
    exact br_t (nI_le (Nat.le_refl k) hk) hK
  · intro fu j s hj _ hp
    unfold P_X1_rest_L2
    refine br_f (nI_ge hj hk) (sp_coolDown hn ?_)
    rw [nI_1]
    exact hp
/-- the sum of the first places -/
def sm (f : Nat → Int32) (m : Nat) : Int32 := itr (fun k s => s + f k) m 0
theorem sm_zero {f : Nat → Int32} {n : Nat} (hz : ∀ k, n ≤ k → k < 8 → f k = 0) : ∀ m, n + m ≤ 8 → sm f (n + m) = sm f n := by
  intro m
  induction m with
  | zero => intro _; rfl
  | succ m ih =>
    intro h
    show sm f (n + m) + f (n + m) = sm f n
    rw [ih (by omega), hz (n + m) (by omega) (by omega)]
    simp
theorem sm_ag {f g : Nat → Int32} {n : Nat} (h : ∀ k, k < n → f k = g k) : sm f n = sm g n := by
  unfold sm
  refine itr_rel (fun a b => a = b) rfl n ?_
  intro k a b hk hab
  rw [hab, h k hk]
theorem sp_allHeat {f : Nat → Int32} {K : Int32 → Prop} (hK : K (sm f 8)) : P_X5_allHeat f K := by
  unfold P_X5_allHeat
  refine cnt_itr (P := fun fu i s => P_X5_allHeat_L4 f (fun v => K v) fu s i) 8 (by omega) (fun k s => s + f k) 0 ?_ ?_
  · intro fu
    unfold P_X5_allHeat_L4
    exact br_t (by decide) hK
  · intro fu k s hk _ hp
    unfold P_X5_allHeat_L4
    refine br_f (by rw [show (8 : Int32) = nI 8 from rfl]; exact nI_ge hk (by omega)) ⟨vp_in_nI hk (by omega), ?_⟩
    rw [nI_1, nI_clamp (by omega)]
    exact hp
theorem lN_1' : (1 : Int64) = (1 : Int32).toInt64 := by decide
theorem sp_in1 {z : Int32} {m : Nat} (hm : m + 1 < 2 ^ 31) {H : Int64} (hH : H = lN m) {K : Int32 → Prop} (hK0 : (z < 1 ∨ nI m < z) → K 0) (hK1 : ∀ j, 1 ≤ j → j ≤ m → z = nI j → K 1) : P_X8_in z.toInt64 (1 : Int64) H K := by
  subst hH
  rcases on_off z (n := m + 1) hm with h | ⟨j, hj, rfl⟩
  · rcases h with h | h
    · have hz1 : z < 1 := Int32.lt_trans h (by decide)
      refine sp_inN (Or.inl ?_) (hK0 (Or.inl hz1))
      rw [lN_1']; exact (wide_lt _ _).mpr hz1
    · have hz2 : nI m < z := Int32.lt_of_lt_of_le (nI_lt (Nat.lt_succ_self m) (by omega)) h
      refine sp_inN (Or.inr ?_) (hK0 (Or.inr hz2))
      rw [← nI_l (by omega)]; exact (wide_lt _ _).mpr hz2
  · by_cases h0 : j = 0
    · subst h0
      refine sp_inN (Or.inl (by decide)) (hK0 (Or.inl (by decide)))
    · refine sp_inY ?_ ?_ (hK1 j (by omega) (by omega) rfl)
      · rw [lN_1', show (1 : Int32) = nI 1 from rfl]; exact (wide_le _ _).mpr (nI_le (by omega) (by omega))
      · rw [← nI_l (by omega : m < 2 ^ 31)]; exact (wide_le _ _).mpr (nI_le (by omega) (by omega))
theorem rt_pause {L n q : Nat} (hn : n ≤ 8) {xs : Nat → Int32} {x3 c qd la be ri aa b d g pr fi co ma mx : Int32} {hs fg qu r di : Nat → Int32} {H F Q I : Nat → Nat → Int32} {N : (Nat → Int32) → Int32 → Int32 → Int32 → Int32 → (Nat → Int32) → (Nat → Int32) → (Nat → Nat → Int32) → (Nat → Nat → Int32) → (Nat → Nat → Int32) → (Nat → Nat → Int32) → Prop}
    (hb : vp_in (x3 + 1) L) (hC : CR n q qd la be ri aa b d g pr hs fg qu r) (hA : R_acts n fi co H F Q I ma mx di)
    (hz30 : Z30 r) (hN : ∀ hs' fi' co' ma' mx' r' di' H' F' Q' I', Z30 r' → CR n q qd la be ri aa b d g pr hs' fg qu r' → R_acts n fi' co' H' F' Q' I' ma' mx' di' → N hs' fi' co' ma' mx' r' di' H' F' Q' I') :
    P_T362 L xs x3 (nI n) c qd la be ri aa b d g pr hs fg qu fi co (nI n) c ma mx r di H F Q I N := by
  unfold P_T362
  refine ⟨hb, ?_⟩
  generalize xs (Int32.toNatClampNeg (x3 + 1)) = z
  have hNR := hN _ _ _ _ _ _ _ _ _ _ _ hz30 hC hA
  obtain ⟨a, f, x, ha, hf, hx, e1, e2, e3, e4, hR⟩ := id hA
  subst e1; subst e2; subst e3; subst e4
  unfold P_X7_pause P_X7_isPause
  by_cases hz1 : z < 1
  · refine br_t hz1 (if00' ?_)
    unfold P_X8_pause
    exact sp_in1 (m := 99) (by omega) rfl (fun _ => if00' (eqN hNR)) (fun j h1 h2 ez => absurd hz1 (by rw [ez, show (1 : Int32) = nI 1 from rfl]; exact nI_nlt h1 (by omega)))
  · refine br_f hz1 ?_
    by_cases hz2 : (99 : Int32) < z
    · refine br_t hz2 (if00' ?_)
      unfold P_X8_pause
      exact sp_in1 (m := 99) (by omega) rfl (fun _ => if00' (eqN hNR)) (fun j h1 h2 ez => absurd hz2 (by rw [ez, show (99 : Int32) = nI 99 from rfl]; exact nI_nlt h2 (by omega)))
    · refine br_f hz2 (if10' (sp_remember hf ha ?_))
      rcases on_off z (n := 100) (by omega) with h | ⟨j, hj, rfl⟩
      · rcases h with h | h
        · exact absurd (Int32.lt_trans h (by decide)) hz1
        · exact absurd (Int32.lt_of_lt_of_le (by decide) h) hz2
      · refine sp_rest hn (by omega) (sp_allHeat ?_)
        unfold P_X8_pause
        refine sp_in1 (m := 99) (by omega) rfl (fun h => ?_) (fun j' h1 h2 ez => if10' (sp_note hx ha ?_))
        · rcases h with h | h
          · exact absurd h hz1
          · exact absurd h hz2
        · refine cnt_itr (P := fun fu i s => P_X8_pause_L23 (nI n) c (nI j) (0 : Int32) (fun v => (∃ ne : Nat, P_X8_pause_L44 (nI n) v (fun x10 => ((sm (rst n c j hs) 8 = x10 → N (rst n c j hs) (nI (rmF f a)) (nI (rmA a)) (nI (rmA a)) (nI ((x + 1) % 14)) v (ntD x r di) (va_up H ((f + a) % 14) (va_cpy hs (H ((f + a) % 14)) 0 0 8)) (va_up F ((f + a) % 14) (va_cpy fg (F ((f + a) % 14)) 0 0 5)) (va_up Q ((f + a) % 14) (va_cpy qu (Q ((f + a) % 14)) 0 0 8)) (va_up I ((f + a) % 14) (g_i9 qd la be ri aa b d g pr))) ∧ (¬ sm (rst n c j hs) 8 = x10 → False))) ne (0 : Int32) (0 : Int32))) fu i s) j (by omega) (fun _ s => cool n c s) r ?_ ?_
          · intro fu
            unfold P_X8_pause_L23
            refine br_t (nI_le (Nat.le_refl j) (by omega)) ?_
            have hCr := hC.rests hn c j
            refine cnt_itr (P := fun fu i s => P_X8_pause_L44 (nI n) (rst n c j r) (fun x10 => ((sm (rst n c j hs) 8 = x10 → N (rst n c j hs) (nI (rmF f a)) (nI (rmA a)) (nI (rmA a)) (nI ((x + 1) % 14)) (rst n c j r) (ntD x r di) (va_up H ((f + a) % 14) (va_cpy hs (H ((f + a) % 14)) 0 0 8)) (va_up F ((f + a) % 14) (va_cpy fg (F ((f + a) % 14)) 0 0 5)) (va_up Q ((f + a) % 14) (va_cpy qu (Q ((f + a) % 14)) 0 0 8)) (va_up I ((f + a) % 14) (g_i9 qd la be ri aa b d g pr))) ∧ (¬ sm (rst n c j hs) 8 = x10 → False))) fu s i) n (by omega) (fun k s => s + rst n c j r k) 0 ?_ ?_
            · intro fu
              unfold P_X8_pause_L44
              refine br_t (nI_le (Nat.le_refl n) (by omega)) (eqN2 ?_ (hN _ _ _ _ _ _ _ _ _ _ _ (itr_inv (fun _ s => Z30 s) hz30 j (fun _ s _ h => h.cool hn c) j (Nat.le_refl j)) hCr (acts_push hn ha hf hx hR hC)))
              have e8 := sm_zero hCr.2.2.2.2.2.2.2.1 (8 - n) (by omega)
              rw [show n + (8 - n) = 8 by omega] at e8
              rw [e8]
              exact sm_ag (fun k hk => hCr.1.1 k (by omega))
            · intro fu k s hk _ hp
              unfold P_X8_pause_L44
              refine br_f (nI_ge hk (by omega)) ⟨vp_in_nI (by omega) (by omega), ?_⟩
              rw [nI_1, nI_clamp (by omega)]
              exact hp
          · intro fu k s hk _ hp
            unfold P_X8_pause_L23
            refine br_f (nI_ge hk (by omega)) (sp_coolOn hn ?_)
            rw [nI_1]
            exact hp
-- printing
theorem rt_print {L n q : Nat} (hn : n ≤ 8) {xs : Nat → Int32} {x3 c lo hi gh qd la be ri aa b d g pr fi co ma mx : Int32} {p hs fg qu r di mp : Nat → Int32} {H F Q I : Nat → Nat → Int32} {N : (Nat → Int32) → Int32 → Int32 → Int32 → Int32 → Int32 → Int32 → Int32 → Int32 → Int32 → (Nat → Int32) → (Nat → Int32) → Int32 → Int32 → Int32 → Int32 → (Nat → Int32) → (Nat → Int32) → (Nat → Int32) → (Nat → Nat → Int32) → (Nat → Nat → Int32) → (Nat → Nat → Int32) → (Nat → Nat → Int32) → Prop}
    (hb : vp_in (x3 + 1) L) (hC : CR n q qd la be ri aa b d g pr hs fg qu r) (hA : R_acts n fi co H F Q I ma mx di)
    (hz30 : Z30 r) (hN : ∀ q' p' qd' la' be' ri' aa' b' d' g' pr' hs' qu' fi' co' ma' mx' r' di' mp' H' F' Q' I', Z30 r' → CR n q' qd' la' be' ri' aa' b' d' g' pr' hs' fg qu' r' → R_acts n fi' co' H' F' Q' I' ma' mx' di' → N p' qd' la' be' ri' aa' b' d' g' pr' hs' qu' fi' co' ma' mx' r' di' mp' H' F' Q' I') :
    P_T339 L xs x3 (nI n) c lo hi gh p qd la be ri aa b d g pr hs fg qu fi co (nI n) c lo hi gh ma mx 0 r di mp H F Q I N := by
  unfold P_T339
  refine ⟨hb, ?_⟩
  generalize xs (Int32.toNatClampNeg (x3 + 1)) = z
  have hNR := hN _ p _ _ _ _ _ _ _ _ _ _ _ _ _ _ _ _ _ mp _ _ _ _ hz30 hC hA
  obtain ⟨a, f, x, ha, hf, hx, e1, e2, e3, e4, hR⟩ := id hA
  subst e1; subst e2; subst e3; subst e4
  unfold P_X7_print
  by_cases hz1 : z < 1
  · refine br_t hz1 ?_
    unfold P_X8_print
    exact sp_in1 (m := 9) (by omega) rfl (fun _ => if00' (eqN hNR)) (fun j h1 h2 ez => absurd hz1 (by rw [ez, show (1 : Int32) = nI 1 from rfl]; exact nI_nlt h1 (by omega)))
  · refine br_f hz1 ?_
    by_cases hz2 : z ≤ (9 : Int32)
    · refine br_t hz2 (sp_remember hf ha ?_)
      rcases on_off z (n := 10) (by omega) with h | ⟨j, hj, rfl⟩
      · rcases h with h | h
        · exact absurd (Int32.lt_trans h (by decide)) hz1
        · exact absurd hz2 (Int32.not_le.mpr (Int32.lt_of_lt_of_le (by decide) h))
      · refine sp_printSome hn (by omega) hC ?_
        intro q' p' qd' la' be' ri' a' b' d' g' pr' hs' qu' hC'
        unfold P_X8_print
        refine sp_in1 (m := 9) (by omega) rfl (fun h => ?_) (fun j' h1 h2 ez => if10' (sp_note hx ha ?_))
        · rcases h with h | h
          · exact absurd h hz1
          · exact absurd hz2 (Int32.not_le.mpr h)
        · refine sp_printLines hn (by omega) hC.2.2.1 hC.2.2.2.1 ?_
          intro mp'
          exact eqN (hN _ _ _ _ _ _ _ _ _ _ _ _ _ _ _ _ _ _ _ _ _ _ _ _ (Z30.prLs hn _ _ _ hC.2.2.1 hC.2.2.2.1 hz30) hC' (acts_push hn ha hf hx hR hC))
    · refine br_f hz2 ?_
      unfold P_X8_print
      exact sp_in1 (m := 9) (by omega) rfl (fun _ => if00' (eqN hNR)) (fun j h1 h2 ez => absurd (by rw [ez, show (9 : Int32) = nI 9 from rfl]; exact nI_le h2 (by omega)) hz2)
