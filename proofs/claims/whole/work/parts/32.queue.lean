/-! ===== pure rows: lines taken from the queue and printed ===== -/
theorem heat_eq {n : Nat} {p p' : Nat → Int32} {ac ac' : Nat → Bool} (ha : ∀ k, k < n → ac k = ac' k) (hp : ∀ k, k < n → ac k = true → p k = p' k) (f : Nat → Int32) : heat n p ac f = heat n p' ac' f := by
  unfold heat
  have h1 : itr (hF n p ac) n f = itr (hF n p' ac') n f := by
    refine itr_rel (fun a b => a = b) rfl n ?_
    intro k s t hk hst
    subst hst
    unfold hF
    rw [← ha k hk]
    cases hac : ac k with
    | false => rfl
    | true => rw [hp k hk hac]
  rw [h1]
theorem prM_p {n : Nat} (c lo hi gh dd w : Int32) (p p' r : Nat → Int32) : prM n c lo hi gh dd w p r = prM n c lo hi gh dd w p' r := by
  have e : ∀ k, k < n → plsM n (cool n c r) w p k = plsM n (cool n c r) w p' k := fun k hk => by rw [plsM_at hk, plsM_at hk]
  have h : heat n (plsM n (cool n c r) w p) (fun k => decide (¬ plsM n (cool n c r) w p k = -9) && !(bz dd k)) (cool n c r) = heat n (plsM n (cool n c r) w p') (fun k => decide (¬ plsM n (cool n c r) w p' k = -9) && !(bz dd k)) (cool n c r) := by
    refine heat_eq (fun k hk => ?_) (fun k hk _ => e k hk) _
    rw [e k hk]
  unfold prM
  try dsimp only
  rw [h]
/-- a line printed on a row -/
def prR (n : Nat) (c lo hi gh dd w : Int32) (r : Nat → Int32) : Nat → Int32 := prM n c lo hi gh dd w (fun _ => 0) r
theorem sp_printOn2 {n : Nat} (hn : n ≤ 8) {w c lo hi gh dd : Int32} {p r : Nat → Int32} {K : (Nat → Int32) → (Nat → Int32) → Prop} (hK : ∀ p', K p' (prR n c lo hi gh dd w r)) : P_X8_printOn w (nI n) c lo hi gh dd p r K := by
  refine sp_printOn hn ?_
  rw [prM_p c lo hi gh dd w p (fun _ => 0) r]
  exact hK _
theorem prR_fr {n : Nat} (hn : n ≤ 8) (c lo hi gh dd w : Int32) (r : Nat → Int32) : ∀ k, 8 ≤ k → (k < 22 ∨ k = 24 ∨ 30 ≤ k) → prR n c lo hi gh dd w r k = r k := by
  intro k hk hk2
  unfold prR prM
  try dsimp only
  rw [upd_at, if_neg (by omega), upd_at, if_neg (by omega), upd_at, if_neg (by omega)]
  unfold setM
  rw [if_neg (by omega), if_neg (by omega), if_neg (by omega), if_neg (by omega)]
  rw [(hF_ag hn (fun _ _ => rfl) (fun _ _ _ => rfl) (fun _ _ => rfl)).2.1 k hk]
  exact (cool_ag hn c (f := r) (g := r) (fun _ _ => rfl)).2.1 k hk
-- the first line taken
def shF (k : Nat) (r : Nat → Int32) : Nat → Int32 := upd r (13 + k) (r (14 + k))
def tkM (m : Nat) (r : Nat → Int32) : Nat → Int32 := upd (itr shF m (upd r 21 (nI m))) (13 + m) 0
theorem tkM_at {m : Nat} (hm : m < 8) (r : Nat → Int32) (j : Nat) : tkM m r j = if j = 21 then nI m else if 13 ≤ j ∧ j < 13 + m then r (j + 1) else if j = 13 + m then 0 else r j := by
  have key := itr_inv (F := shF) (s0 := upd r 21 (nI m)) (fun k (s : Nat → Int32) => ∀ j, s j = if j = 21 then nI m else if 13 ≤ j ∧ j < 13 + k then r (j + 1) else r j) (fun j => by
      rw [upd_at]
      by_cases h : j = 21
      · rw [if_pos h, if_pos h]
      · rw [if_neg h, if_neg h, if_neg (by omega)]) m (fun k s hk hs j => by
      unfold shF
      rw [upd_at, hs (14 + k), hs j]
      by_cases h : j = 13 + k
      · subst h
        rw [if_pos rfl, if_neg (by omega), if_neg (by omega), if_neg (by omega), if_pos (by omega)]
        congr 1
        omega
      · rw [if_neg h]
        by_cases h2 : j = 21
        · rw [if_pos h2, if_pos h2]
        · rw [if_neg h2, if_neg h2]
          by_cases h3 : 13 ≤ j ∧ j < 13 + k
          · rw [if_pos h3, if_pos (by omega)]
          · rw [if_neg h3, if_neg (by omega)]) m (Nat.le_refl m) j
  unfold tkM
  rw [upd_at, key]
  by_cases h : j = 13 + m
  · subst h
    rw [if_pos rfl, if_neg (by omega), if_neg (by omega), if_pos rfl]
  · rw [if_neg h]
    by_cases h2 : j = 21
    · rw [if_pos h2, if_pos h2]
    · rw [if_neg h2, if_neg h2]
      by_cases h3 : 13 ≤ j ∧ j < 13 + m
      · rw [if_pos h3, if_pos h3]
      · rw [if_neg h3, if_neg h3, if_neg h]
theorem sp_takeLine {m : Nat} (hm : m < 8) {r : Nat → Int32} (h21 : r 21 = nI (m + 1)) {K : Int32 → (Nat → Int32) → Prop} (hK : K (r 13) (tkM m r)) : P_X8_takeLine r K := by
  unfold P_X8_takeLine
  rw [tn21, tn13, h21, nI_pred]
  refine cnt_itr (P := fun fu i s => P_X8_takeLine_L15 (r 13) (fun v => (vp_in ((13 : Int32) + (v 21)) 30 ∧ K (r 13) (upd v (Int32.toNatClampNeg ((13 : Int32) + (v 21))) (0 : Int32)))) fu i s) m (by omega) shF (upd r 21 (nI m)) ?_ ?_
  · intro fu
    unfold P_X8_takeLine_L15
    have e21 : itr shF m (upd r 21 (nI m)) 21 = nI m := by
      have := itr_inv (F := shF) (s0 := upd r 21 (nI m)) (fun _ (s : Nat → Int32) => s 21 = nI m) rfl m (fun k s hk hs => by unfold shF; rw [upd_at, if_neg (by omega)]; exact hs) m (Nat.le_refl m)
      exact this
    rw [tn21, e21]
    refine br_t (nI_le (Nat.le_refl m) (by omega)) ?_
    rw [show (13 : Int32) = nI 13 from rfl, nI_add, nI_clamp (by omega)]
    exact ⟨vp_in_nI (by omega) (by omega), hK⟩
  · intro fu k s hk hs hp
    unfold P_X8_takeLine_L15
    have e21 : s 21 = nI m := by
      rw [hs]
      have := itr_inv (F := shF) (s0 := upd r 21 (nI m)) (fun _ (s : Nat → Int32) => s 21 = nI m) rfl m (fun k s hk hs => by unfold shF; rw [upd_at, if_neg (by omega)]; exact hs) k (by omega)
      exact this
    rw [tn21, e21]
    refine br_f (nI_ge hk (by omega)) ?_
    rw [show (13 : Int32) = nI 13 from rfl, nI_add, nI_1, nI_1, nI_clamp (by omega : 13 + k < 2 ^ 31), nI_clamp (by omega : 13 + k + 1 < 2 ^ 31)]
    refine ⟨vp_in_nI (by omega) (by omega), vp_in_nI (by omega) (by omega), ?_⟩
    unfold shF at hp
    rw [show 13 + k + 1 = 14 + k by omega]
    exact hp
theorem sp_dropFirst {q : Nat} (hq : q < 8) {qu : Nat → Int32} {K : Int32 → (Nat → Int32) → Prop} (hK : ∀ qu', (∀ i, i < q → qu' i = qu (i + 1)) → K (nI q) qu') : P_X5_dropFirst (nI (q + 1)) qu K := by
  unfold P_X5_dropFirst
  rw [nI_pred]
  have e0 : (if (0 : Int32) < nI q then nI q else (0 : Int32)) = nI q := by
    by_cases h : q = 0
    · subst h; rfl
    · rw [if_pos (by rw [← nI_0]; exact nI_lt (by omega) (by omega))]
  rw [e0]
  have key : ∀ m k (s : Nat → Int32), k + m = q → (∀ i, i < k → s i = qu (i + 1)) → (∀ i, k ≤ i → s i = qu i) → P_X5_dropFirst_L2 (nI (q + 1)) (fun v => K (nI q) v) (m + 1) (nI (k + 1)) s := by
    intro m
    induction m with
    | zero =>
      intro k s hk h1 h2
      unfold P_X5_dropFirst_L2
      have hkq : k = q := by omega
      subst hkq
      exact br_t (nI_le (Nat.le_refl _) (by omega)) (hK s h1)
    | succ m ih =>
      intro k s hk h1 h2
      unfold P_X5_dropFirst_L2
      refine br_f (nI_ge (by omega) (by omega)) ?_
      rw [nI_pred, nI_1, nI_clamp (by omega : k < 2 ^ 31), nI_clamp (by omega : k + 1 < 2 ^ 31)]
      refine ⟨vp_in_nI (by omega) (by omega), vp_in_nI (by omega) (by omega), ?_⟩
      refine ih (k + 1) _ (by omega) (fun i hi => ?_) (fun i hi => ?_)
      · rw [upd_at]
        by_cases h : i = k
        · subst h; rw [if_pos rfl, h2 _ (by omega)]
        · rw [if_neg h, h1 i (by omega)]
      · rw [upd_at, if_neg (by omega), h2 i (by omega)]
  exact ⟨q + 1, by have h := key q 0 qu (by omega) (fun i hi => absurd hi (by omega)) (fun _ _ => rfl); rw [show nI (0 + 1) = 1 from rfl] at h; exact h⟩
/-- the class's State tells the row -/
def FG (fg : Nat → Int32) : Prop := (∀ i, i < 5 → ∃ v, v ≤ 9 ∧ fg i = nI v) ∧ (∀ i, i < 4 → fg (i + 1) ≤ fg i)
theorem FG.ne {fg : Nat → Int32} (h : FG fg) : ∀ i, i < 5 → ¬ fg i = -9 := by
  intro i hi e
  obtain ⟨v, hv, e2⟩ := h.1 i hi
  rw [e2] at e
  have := congrArg Int32.toInt e
  rw [nI_toInt (by omega)] at this
  have h9 : (-9 : Int32).toInt = -9 := by decide
  omega
def CR (n q : Nat) (qd la be ri a b d g pr : Int32) (hs fg qu : Nat → Int32) (r : Nat → Int32) : Prop :=
  PR hs fg la be a b d g pr r ∧ qd = nI q ∧ q ≤ 8 ∧ r 21 = nI q ∧ (∀ i, i < q → qu i = r (13 + i) ∧ ∃ v, v < 2 ^ n ∧ qu i = nI v) ∧ r 24 = ri ∧ (∃ t, t < 2 ^ 31 ∧ ri = nI t) ∧ (∀ k, n ≤ k → k < 8 → hs k = 0) ∧ FG fg
theorem PR.kept {hs fg : Nat → Int32} {la be a b d g pr : Int32} {r r' : Nat → Int32} (h : PR hs fg la be a b d g pr r) (h1 : ∀ k, k < 30 → (k < 13 ∨ k = 22 ∨ k = 23 ∨ 25 ≤ k) → r' k = r k) : PR hs fg la be a b d g pr r' := by
  obtain ⟨p1, p2, p3, p4, p5, p6, p7, p8, p9⟩ := h
  exact ⟨fun k hk => (p1 k hk).trans (h1 k (by omega) (by omega)).symm, fun i hi => (p2 i hi).trans (h1 _ (by omega) (by omega)).symm, (h1 22 (by omega) (by omega)).trans p3, (h1 23 (by omega) (by omega)).trans p4, (h1 25 (by omega) (by omega)).trans p5, (h1 26 (by omega) (by omega)).trans p6, (h1 27 (by omega) (by omega)).trans p7, (h1 28 (by omega) (by omega)).trans p8, (h1 29 (by omega) (by omega)).trans p9⟩
theorem two_pow_8 {n : Nat} (hn : n ≤ 8) : 2 ^ n ≤ 256 := by
  have h := Nat.pow_le_pow_right (show 0 < 2 by decide) hn
  exact h
/-- one line printed by the class: the row has it printed -/
theorem cr_print {n : Nat} (hn : n ≤ 8) {v : Nat} (hv : v < 2 ^ n) {c lo hi gh dd la be a b d g pr : Int32} {p hs fg r : Nat → Int32} {K : (Nat → Int32) → Int32 → Int32 → Int32 → Int32 → Int32 → Int32 → Int32 → (Nat → Int32) → Prop}
    (hPR : PR hs fg la be a b d g pr r) (hFG : FG fg) (hz : ∀ k, n ≤ k → k < 8 → hs k = 0)
    (hK : ∀ p2 a2 b2 d2 g2 h2, PR h2 fg (nI v) la a2 b2 d2 g2 (pr + 1) (prR n c lo hi gh dd (nI v) r) → (∀ k, n ≤ k → k < 8 → h2 k = 0) → K p2 (nI v) la a2 b2 d2 g2 (pr + 1) h2) :
    P_X1_printLine (nI v) dd (nI n) c lo hi gh p la be a b d g pr hs fg K := by
  refine sp_printLine hn (Nat.lt_of_lt_of_le hv (two_pow_8 hn)) ?_
  intro h2 p2 m2 ep eh em
  obtain ⟨q1, q2, q3⟩ := pr_rel (p' := fun _ => 0) hn hPR hFG.ne ep eh em
  exact hK p2 _ _ _ _ h2 q1 (fun k h1 h2' => (q3 k h1).trans (hz k h1 h2'))
/-- so many lines printed from a row: how many, and the row -/
def prLs (n : Nat) (c lo hi gh dd : Int32) : Nat → (Nat → Int32) → Nat × (Nat → Int32)
  | 0, r => (0, r)
  | k + 1, r =>
    if r 21 ≤ 0 then (0, r)
    else if 0 < r 24 ∨ r 13 = 0 then
      (let r1 := tkM ((r 21).toNatClampNeg - 1) r
       let r2 := prR n c lo hi gh dd (r 13) r1
       let s := prLs n c lo hi gh dd k (upd r2 24 (r2 24 - (if r 13 = 0 then 0 else 1)))
       (s.1 + 1, s.2))
    else (0, r)
theorem i32_sub0 (x : Int32) : x - 0 = x := by simp
theorem sp_printSome {n q k : Nat} (hn : n ≤ 8) (hk : k ≤ 9) {dd c lo hi gh qd la be ri a b d g pr : Int32} {p hs fg qu r : Nat → Int32} (hCR : CR n q qd la be ri a b d g pr hs fg qu r)
    {K : Int32 → (Nat → Int32) → Int32 → Int32 → Int32 → Int32 → Int32 → Int32 → Int32 → Int32 → Int32 → (Nat → Int32) → (Nat → Int32) → Prop}
    (hK : ∀ q' p' qd' la' be' ri' a' b' d' g' pr' hs' qu', CR n q' qd' la' be' ri' a' b' d' g' pr' hs' fg qu' (prLs n c lo hi gh dd k r).2 → K (nI (prLs n c lo hi gh dd k r).1) p' qd' la' be' ri' a' b' d' g' pr' hs' qu') :
    P_X1_printSome (nI k) dd (nI n) c lo hi gh p qd la be ri a b d g pr hs fg qu K := by
  unfold P_X1_printSome
  have key : ∀ m done q p qd la be ri a b d g pr hs qu r, done + m = k → CR n q qd la be ri a b d g pr hs fg qu r →
      (∀ q' p' qd' la' be' ri' a' b' d' g' pr' hs' qu', CR n q' qd' la' be' ri' a' b' d' g' pr' hs' fg qu' (prLs n c lo hi gh dd m r).2 → K (nI (done + (prLs n c lo hi gh dd m r).1)) p' qd' la' be' ri' a' b' d' g' pr' hs' qu') →
      P_X1_printSome_L3 (nI n) c lo hi gh fg (nI k) dd (fun x p qd la be ri a b d g pr hs qu => K x p qd la be ri a b d g pr hs qu) (fun p qd la be ri a b d g pr hs qu => K (nI k) p qd la be ri a b d g pr hs qu) (m + 1) (nI done) p qd la be ri a b d g pr hs qu := by
    intro m
    induction m with
    | zero =>
      intro done q p qd la be ri a b d g pr hs qu r hd hC hKK
      unfold P_X1_printSome_L3
      have e : done = k := by omega
      subst e
      exact br_t (nI_le (Nat.le_refl _) (by omega)) (hKK q p qd la be ri a b d g pr hs qu hC)
    | succ m ih =>
      intro done q p qd la be ri a b d g pr hs qu r hd hC hKK
      unfold P_X1_printSome_L3
      refine br_f (nI_ge (by omega) (by omega)) ?_
      obtain ⟨hPR, eqd, hq8, e21, hqu, e24, ⟨t, ht, eri⟩, hz, hFG⟩ := id hC
      by_cases hq0 : q = 0
      · subst hq0
        refine br_t (by rw [eqd]; rfl) ?_
        have e : prLs n c lo hi gh dd (m + 1) r = (0, r) := by
          show (if r 21 ≤ 0 then (0, r) else _) = _
          rw [if_pos (by rw [e21]; decide)]
        rw [e] at hKK
        exact hKK 0 p qd la be ri a b d g pr hs qu hC
      · obtain ⟨q', rfl⟩ : ∃ q', q = q' + 1 := ⟨q - 1, by omega⟩
        refine br_f (by rw [eqd]; exact nI_ne0 (by omega) (by omega)) ?_
        obtain ⟨e13, v, hv, ev⟩ := hqu 0 (by omega)
        rw [Nat.add_zero] at e13
        have hn21 : ¬ r 21 ≤ 0 := by rw [e21, ← nI_0]; exact nI_ge (by omega) (by omega)
        have hcl : (r 21).toNatClampNeg - 1 = q' := by rw [e21, nI_clamp (by omega)]; omega
        have hPR1 : PR hs fg la be a b d g pr (tkM q' r) := hPR.kept (fun k hk hk2 => by
          rw [tkM_at (by omega), if_neg (by omega), if_neg (by omega), if_neg (by omega)])
        have go : (0 < r 24 ∨ r 13 = 0) → ∀ (ri2 : Int32), (∃ t, t < 2 ^ 31 ∧ ri2 = nI t) → ri2 = ri - (if r 13 = 0 then 0 else 1) → P_X5_dropFirst qd qu (fun qd1 qu1 => P_X1_printLine (qu 0) dd (nI n) c lo hi gh p la be a b d g pr hs fg (fun p3 la4 be5 a6 b7 d8 g9 pr10 hs11 => P_X1_printSome_L3 (nI n) c lo hi gh fg (nI k) dd (fun x p qd la be ri a b d g pr hs qu => K x p qd la be ri a b d g pr hs qu) (fun p qd la be ri a b d g pr hs qu => K (nI k) p qd la be ri a b d g pr hs qu) (m + 1) (nI done + 1) p3 qd1 la4 be5 ri2 a6 b7 d8 g9 pr10 hs11 qu1)) := by
          intro hgo ri2 hri2 eri2
          rw [eqd]
          refine sp_dropFirst (by omega) ?_
          intro qu' hqu'
          rw [ev]
          refine cr_print hn hv hPR1 hFG hz ?_
          intro p2 a2 b2 d2 g2 h2 hPR2 hz2
          rw [nI_1]
          have hfr := prR_fr hn c lo hi gh dd (nI v) (tkM q' r)
          have hL : prLs n c lo hi gh dd (m + 1) r = ((prLs n c lo hi gh dd m (upd (prR n c lo hi gh dd (r 13) (tkM q' r)) 24 (prR n c lo hi gh dd (r 13) (tkM q' r) 24 - (if r 13 = 0 then 0 else 1)))).1 + 1, (prLs n c lo hi gh dd m (upd (prR n c lo hi gh dd (r 13) (tkM q' r)) 24 (prR n c lo hi gh dd (r 13) (tkM q' r) 24 - (if r 13 = 0 then 0 else 1)))).2) := by
            show (if r 21 ≤ 0 then (0, r) else if 0 < r 24 ∨ r 13 = 0 then _ else (0, r)) = _
            rw [if_neg hn21, if_pos hgo, hcl]
          rw [hL] at hKK
          rw [← e13, ev] at hKK
          have ert : tkM q' r 24 = ri := by rw [tkM_at (by omega), if_neg (by omega), if_neg (by omega), if_neg (by omega)]; exact e24
          rw [hfr 24 (by omega) (by omega), ert] at hKK
          rw [← e13, ev] at eri2
          rw [← eri2] at hKK
          refine ih (done + 1) q' p2 (nI q') (nI v) la ri2 a2 b2 d2 g2 (pr + 1) h2 qu' (upd (prR n c lo hi gh dd (nI v) (tkM q' r)) 24 ri2) (by omega) ?_ ?_
          · refine ⟨hPR2.kept (fun j hj hj2 => by rw [upd_at, if_neg (by omega)]), rfl, by omega, ?_, ?_, ?_, hri2, hz2, hFG⟩
            · rw [upd_at, if_neg (by omega), hfr 21 (by omega) (by omega), tkM_at (by omega), if_pos rfl]
            · intro i hi
              obtain ⟨f1, f2⟩ := hqu (i + 1) (by omega)
              rw [hqu' i hi]
              refine ⟨?_, f2⟩
              rw [upd_at, if_neg (by omega), hfr _ (by omega) (by omega), tkM_at (by omega), if_neg (by omega), if_pos (by omega), f1]
              congr 1
            · rw [upd_at, if_pos rfl]
          · intro q3 p3 qd3 la3 be3 ri3 a3 b3 d3 g3 pr3 hs3 qu3 hC3
            have := hKK q3 p3 qd3 la3 be3 ri3 a3 b3 d3 g3 pr3 hs3 qu3 hC3
            rw [show done + 1 + (prLs n c lo hi gh dd m (upd (prR n c lo hi gh dd (nI v) (tkM q' r)) 24 ri2)).1 = done + ((prLs n c lo hi gh dd m (upd (prR n c lo hi gh dd (nI v) (tkM q' r)) 24 ri2)).1 + 1) by omega]
            exact this
        rw [tn0]
        refine ⟨fun hne => ?_, fun he => ?_⟩
        · have ht0 : 0 < t := by
            rcases Nat.eq_zero_or_pos t with h | h
            · subst h; exact absurd eri hne
            · exact h
          have hgo : (0 < r 24 ∨ r 13 = 0) := Or.inl (by rw [e24, eri, ← nI_0]; exact nI_lt ht0 ht)
          by_cases hw0 : qu 0 = 0
          · have g1 := go hgo ri ⟨t, ht, eri⟩ (by rw [← e13, if_pos hw0, i32_sub0])
            have mono : ∀ {A B : Prop}, A → (qu 0 = 0 → A) ∧ (¬ qu 0 = 0 → B) := fun h => ⟨fun _ => h, fun q => absurd hw0 q⟩
            simp only [hw0, true_imp_iff, not_true_eq_false, false_imp_iff, and_true] at g1 ⊢
            exact g1
          · have g1 := go hgo (ri - 1) ⟨t - 1, by omega, by rw [eri, show (1 : Int32) = nI 1 from rfl, pk_sub ht0]⟩ (by rw [← e13, if_neg hw0])
            simp only [hw0, not_false_eq_true, true_imp_iff, false_imp_iff, true_and] at g1 ⊢
            exact g1
        · have hn0 : ¬ 0 < r 24 := by rw [e24, he]; decide
          by_cases hw0 : qu 0 = 0
          · have g1 := go (Or.inr (e13.symm.trans hw0)) ri ⟨t, ht, eri⟩ (by rw [← e13, if_pos hw0, i32_sub0])
            refine br_t hw0 ?_
            simp only [hw0, true_imp_iff, not_true_eq_false, false_imp_iff, and_true] at g1 ⊢
            exact g1
          · refine br_f hw0 ?_
            have e : prLs n c lo hi gh dd (m + 1) r = (0, r) := by
              show (if r 21 ≤ 0 then (0, r) else if 0 < r 24 ∨ r 13 = 0 then _ else (0, r)) = _
              rw [if_neg hn21, if_neg (fun h => h.elim hn0 (fun h => hw0 (e13.trans h)))]
            rw [e] at hKK
            exact hKK _ p qd la be ri a b d g pr hs qu hC
  have h := key k 0 q p qd la be ri a b d g pr hs qu r (by omega) hCR (fun q' p' qd' la' be' ri' a' b' d' g' pr' hs' qu' hC => by rw [Nat.zero_add]; exact hK q' p' qd' la' be' ri' a' b' d' g' pr' hs' qu' hC)
  rw [nI_0] at h
  exact ⟨k + 1, h⟩
