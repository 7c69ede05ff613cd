/-! ===== pure rows: slots, drawn, which ===== -/
def R_slots (n : Nat) (H F Q I : Nat → Nat → Int32) (fl kp ik : Nat → Int32) : Prop := ∀ k, k < 2 → fl k = ik k ∧ (¬ fl k = 0 → EL n H F Q I k (fun i => kp (30 * k + i)))
theorem sp_isSlotOff {b : Int32} (h : off b 2) {K : Int32 → Prop} (hK : K 0) : P_X4_isSlot b K := by
  unfold P_X4_isSlot
  refine ⟨fun _ => hK, fun q => ⟨fun _ => hK, fun z => ?_⟩⟩
  rcases h with h | h
  · exact absurd h q
  · exact absurd h z
theorem sp_isSlotOn {j : Nat} (h : j < 2) {K : Int32 → Prop} (hK : K 1) : P_X4_isSlot (nI j) K := by
  unfold P_X4_isSlot
  exact br_f (nI_pos (by omega)) (br_f (by rw [show (2 : Int32) = nI 2 from rfl]; exact nI_ge h (by omega)) hK)
theorem rt_keep {L n q : Nat} (hn : n ≤ 8) {xs : Nat → Int32} {x3 qd la be ri aa b d g pr : Int32} {hs fg qu r fl kp ik : Nat → Int32} {H F Q I : Nat → Nat → Int32} {N : (Nat → Nat → Int32) → (Nat → Nat → Int32) → (Nat → Nat → Int32) → (Nat → Nat → Int32) → (Nat → Int32) → (Nat → Int32) → (Nat → Int32) → Prop}
    (hb : vp_in (x3 + 1) L) (hC : CR n q qd la be ri aa b d g pr hs fg qu r) (hR : R_slots n H F Q I fl kp ik) (hN : ∀ H' F' Q' I' fl' kp' ik', R_slots n H' F' Q' I' fl' kp' ik' → N H' F' Q' I' fl' kp' ik') :
    P_T827 L xs x3 qd la be ri aa b d g pr hs fg qu H F Q I fl r kp ik N := by
  unfold P_T827
  refine ⟨hb, ?_⟩
  generalize xs (Int32.toNatClampNeg (x3 + 1)) = z
  have hNR := hN _ _ _ _ _ _ _ hR
  unfold P_X7_keep
  rcases on_off z (n := 2) (by omega) with h | ⟨j, hj, rfl⟩
  · refine sp_isSlotOff h (if00' ?_)
    unfold P_X8_keep
    exact sp_inOff (m := 1) (by omega) rfl h (if00' (eqN hNR))
  · refine sp_isSlotOn hj (if10' ?_)
    unfold P_X4_store
    refine sp_isSlotOn hj (if10 ⟨vp_in_nI hj (by omega), fun k hk ek => ?_⟩)
    have e := (nI_eq (by omega) (by omega)).mp ek
    subst e
    unfold P_X5_copyFrom P_X8_keep
    refine sp_inOn (m := 1) (by omega) rfl hj (if10' ⟨vp_in_nI hj (by omega), ?_⟩)
    rw [nI_clamp (by omega : j < 2 ^ 31), tn29]
    refine cnt_itr (P := fun fu i s => P_X8_keep_L21 r (nI j) (fun v => ((pr = r 29 → N (va_up H j (va_cpy hs (H j) 0 0 8)) (va_up F j (va_cpy fg (F j) 0 0 5)) (va_up Q j (va_cpy qu (Q j) 0 0 8)) (va_up I j (g_i9 qd la be ri aa b d g pr)) (upd fl j (vp_nar .boolean (1 : Int32))) v (upd ik j (vp_nar .boolean (1 : Int32)))) ∧ (¬ pr = r 29 → False))) fu i s) 30 (by omega) (fun k s => upd s (30 * j + k) (r k)) kp ?_ ?_
    · intro fu
      unfold P_X8_keep_L21
      refine br_t (by decide) (eqN2 hC.1.2.2.2.2.2.2.2.2.symm ?_)
      have e : itr (fun k s => upd s (30 * j + k) (r k)) 30 kp = ntD j r kp := by
        have := itr_inv (F := fun k s => upd s (30 * j + k) (r k)) (s0 := kp) (fun k (s : Nat → Int32) => ∀ i, s i = if 30 * j ≤ i ∧ i < 30 * j + k then r (i - 30 * j) else kp i) (fun i => by rw [if_neg (by omega)]) 30 (fun k s hk hs i => by
          rw [upd_at, hs i]
          by_cases h : i = 30 * j + k
          · subst h; rw [if_pos rfl, if_pos (by omega)]; congr 1; omega
          · rw [if_neg h]
            by_cases h2 : 30 * j ≤ i ∧ i < 30 * j + k
            · rw [if_pos h2, if_pos (by omega)]
            · rw [if_neg h2, if_neg (by omega)]) 30 (Nat.le_refl _)
        funext i
        exact this i
      rw [e]
      refine hN _ _ _ _ _ _ _ (fun k hk => ⟨?_, fun hne => ?_⟩)
      · rw [upd_at, upd_at]
        by_cases h : k = j
        · rw [if_pos h, if_pos h]
        · rw [if_neg h, if_neg h]; exact (hR k hk).1
      · by_cases h : k = j
        · subst h
          refine ⟨q, ?_⟩
          simp only [va_up_at, if_true]
          refine CR.row (r := r) (hC.cpy hn) (fun i hi => ?_)
          unfold ntD
          rw [if_pos (by omega)]
          congr 1
          omega
        · rw [upd_at, if_neg h] at hne
          refine EL.row (((hR k hk).2 hne).up_ne h _ _ _ _) (fun i hi => ?_)
          unfold ntD
          rw [if_neg (by omega)]
    · intro fu k s hk _ hp
      unfold P_X8_keep_L21
      refine br_f (by rw [show (30 : Int32) = nI 30 from rfl]; exact nI_ge hk (by omega)) ⟨vp_in_nI (by omega) (by omega), ?_⟩
      rw [show (30 : Int32) = nI 30 from rfl, pk_mul, nI_add, nI_1 k, nI_clamp (by omega : k < 2 ^ 31), nI_clamp (by omega : 30 * j + k < 2 ^ 31)]
      exact ⟨vp_in_nI (by omega) (by omega), hp⟩
theorem rt_again {L n q : Nat} (hn : n ≤ 8) {xs : Nat → Int32} {x3 qd la be ri aa b d g pr fi co ma mx : Int32} {hs fg qu r fl kp ik di : Nat → Int32} {H F Q I H2 F2 Q2 I2 : Nat → Nat → Int32} {N : Int32 → Int32 → Int32 → Int32 → Int32 → Int32 → Int32 → Int32 → Int32 → (Nat → Int32) → (Nat → Int32) → (Nat → Int32) → Int32 → Int32 → (Nat → Int32) → Prop}
    (hb : vp_in (x3 + 1) L) (hC : CR n q qd la be ri aa b d g pr hs fg qu r) (hR : R_slots n H F Q I fl kp ik) (hA : R_acts n fi co H2 F2 Q2 I2 ma mx di) (hz30 : Z30 r)
    (hN : ∀ q' qd' la' be' ri' aa' b' d' g' pr' hs' fg' qu' co' ma' r', Z30 r' → CR n q' qd' la' be' ri' aa' b' d' g' pr' hs' fg' qu' r' → R_acts n fi co' H2 F2 Q2 I2 ma' mx di → N qd' la' be' ri' aa' b' d' g' pr' hs' fg' qu' co' ma' r') :
    P_T850 L xs x3 qd la be ri aa b d g pr hs fg qu co H F Q I fl ma r kp ik N := by
  unfold P_T850
  refine ⟨hb, ?_⟩
  generalize xs (Int32.toNatClampNeg (x3 + 1)) = z
  have hNR := hN _ _ _ _ _ _ _ _ _ _ _ _ _ _ _ _ hz30 hC hA
  unfold P_X7_again
  rcases on_off z (n := 2) (by omega) with h | ⟨j, hj, rfl⟩
  · refine sp_isSlotOff h (if00' ?_)
    unfold P_X8_again
    exact sp_inOff (m := 1) (by omega) rfl h (if00' (eqN hNR))
  · refine sp_isSlotOn hj (if10' ?_)
    obtain ⟨ef, hE⟩ := hR j hj
    unfold P_X4_fetch
    refine sp_isSlotOn hj (if10 ⟨vp_in_nI hj (by omega), ?_⟩)
    rw [nI_clamp (by omega : j < 2 ^ 31)]
    by_cases h0 : fl j = 0
    · refine ⟨fun q => absurd h0 q, fun _ => if00' ?_⟩
      unfold P_X8_again
      refine sp_inOn (m := 1) (by omega) rfl hj (if10' ⟨vp_in_nI hj (by omega), ?_⟩)
      rw [nI_clamp (by omega : j < 2 ^ 31)]
      exact ⟨fun q => absurd (ef.symm.trans h0) q, fun _ => eqN hNR⟩
    · refine ⟨fun _ k hk ek => ?_, fun q => absurd q h0⟩
      have e := (nI_eq (by omega) (by omega)).mp ek
      subst e
      unfold P_X5_copyFrom
      refine if10' ?_
      unfold P_X0_forgetAll P_X8_again
      refine sp_inOn (m := 1) (by omega) rfl hj (if10' ⟨vp_in_nI hj (by omega), ?_⟩)
      rw [nI_clamp (by omega : j < 2 ^ 31)]
      refine ⟨fun _ => ?_, fun q => absurd (ef.trans q) h0⟩
      obtain ⟨q2, hE⟩ := hE h0
      rw [tn29]
      refine cnt_itr (P := fun fu i s => P_X8_again_L26 kp (nI j) (fun v => ((I j 11 = v 29 → N (I j 3) (I j 4) (I j 5) (I j 6) (I j 7) (I j 8) (I j 9) (I j 10) (I j 11) (va_cpy (H j) hs 0 0 8) (va_cpy (F j) fg 0 0 5) (va_cpy (Q j) qu 0 0 8) 0 0 v) ∧ (¬ I j 11 = v 29 → False))) fu i s) 30 (by omega) (fun k s => upd s k (kp (30 * j + k))) r ?_ ?_
      · intro fu
        unfold P_X8_again_L26
        refine br_t (by decide) ?_
        have e : itr (fun k s => upd s k (kp (30 * j + k))) 30 r = cp30 (fun i => kp (30 * j + i)) r := by
          have := itr_inv (F := fun k s => upd s k (kp (30 * j + k))) (s0 := r) (fun k (s : Nat → Int32) => ∀ i, s i = if i < k then kp (30 * j + i) else r i) (fun i => by rw [if_neg (by omega)]) 30 (fun k s hk hs i => by
            rw [upd_at, hs i]
            by_cases h : i = k
            · subst h; rw [if_pos rfl, if_pos (by omega)]
            · rw [if_neg h]
              by_cases h2 : i < k
              · rw [if_pos h2, if_pos (by omega)]
              · rw [if_neg h2, if_neg (by omega)]) 30 (Nat.le_refl _)
          funext i
          exact this i
        rw [e]
        have hC2 := CR.copy (r' := r) (hs' := hs) (fg' := fg) (qu' := qu) hn hE
        refine eqN2 hC2.1.2.2.2.2.2.2.2.2.symm (hN q2 _ _ _ _ _ _ _ _ _ _ _ _ _ _ _ hz30.cp hC2 ?_)
        obtain ⟨a, f, x, ha, hf, hx, e1, e2, e3, e4, hRR⟩ := hA
        exact ⟨0, f, x, by omega, hf, hx, e1, rfl, rfl, e4, fun j hj => absurd hj (by omega)⟩
      · intro fu k s hk _ hp
        unfold P_X8_again_L26
        refine br_f (by rw [show (30 : Int32) = nI 30 from rfl]; exact nI_ge hk (by omega)) ?_
        rw [show (30 : Int32) = nI 30 from rfl, pk_mul, nI_add, nI_1 k, nI_clamp (by omega : k < 2 ^ 31), nI_clamp (by omega : 30 * j + k < 2 ^ 31)]
        exact ⟨vp_in_nI (by omega) (by omega), vp_in_nI (by omega) (by omega), hp⟩
-- lines by a seed
def lcg (s : Int64) : Int64 := (s * (6364136223846793005 : Int64)) + (1442695040888963407 : Int64)
def lcw (s : Int64) : Int32 := Int64.toInt32 ((Int64.toUInt64 (lcg s) >>> ((Int32.toInt64 (33 : Int32)).toUInt64 &&& Int64.toUInt64 63)).toInt64)
theorem and_all {n : Nat} (hn : n ≤ 8) (x : Int32) : ∃ v, v < 2 ^ n ∧ x &&& (((1 : Int32) <<< (nI n &&& 31)) - 1) = nI v := by
  have h8 := two_pow_8 hn
  have hp := pow_pos2 n
  rw [all_c n (by omega)]
  refine ⟨x.toBitVec.toNat % 2 ^ n, Nat.mod_lt _ hp, ?_⟩
  exact pk_and x n (pk_tn (by omega))
def drM (n : Nat) (c lo hi gh dd : Int32) : Nat → Int64 → (Nat → Int32) → Int64 × (Nat → Int32)
  | 0, s, r => (s, r)
  | m + 1, s, r => drM n c lo hi gh dd m (lcg s) (prR n c lo hi gh dd (lcw s &&& (((1 : Int32) <<< (nI n &&& 31)) - 1)) r)
theorem Z30.drM {n : Nat} (hn : n ≤ 8) {c lo hi gh dd : Int32} : ∀ (m : Nat) (s : Int64) (r : Nat → Int32), Z30 r → Z30 (drM n c lo hi gh dd m s r).2 := by
  intro m
  induction m with
  | zero => intro s r h; exact h
  | succ m ih => intro s r h; exact ih _ _ (h.pr hn)
theorem sp_drawn7 {n m : Nat} (hn : n ≤ 8) (hm : m ≤ 20) {c lo hi gh : Int32} {fg : Nat → Int32} (hFG : FG fg) {C : Int64 → (Nat → Int32) → Int32 → Int32 → Int32 → Int32 → Int32 → Int32 → Int32 → (Nat → Int32) → Prop} :
    ∀ (k i : Nat) (s : Int64) (p : Nat → Int32) (la be a b d g pr : Int32) (hs r : Nat → Int32), i + k = m → PR hs fg la be a b d g pr r → (∀ j, n ≤ j → j < 8 → hs j = 0) → (∀ p' la' be' a' b' d' g' pr' hs', PR hs' fg la' be' a' b' d' g' pr' (drM n c lo hi gh 0 k s r).2 → C (drM n c lo hi gh 0 k s r).1 p' la' be' a' b' d' g' pr' hs') → P_X7_drawn_L27 (nI n) c lo hi gh fg (nI m) C (k + 1) (nI i) s p la be a b d g pr hs := by
  intro k
  induction k with
  | zero =>
    intro i s p la be a b d g pr hs r him hP hz hK
    unfold P_X7_drawn_L27
    have e : i = m := by omega
    subst e
    exact br_t (nI_le (Nat.le_refl _) (by omega)) (hK _ _ _ _ _ _ _ _ _ hP)
  | succ k ih =>
    intro i s p la be a b d g pr hs r him hP hz hK
    unfold P_X7_drawn_L27 P_X1_allDots
    refine br_f (nI_ge (by omega) (by omega)) ?_
    obtain ⟨v, hv, ev⟩ := and_all hn (lcw s)
    have ev' : Int64.toInt32 ((Int64.toUInt64 ((s * (6364136223846793005 : Int64)) + (1442695040888963407 : Int64)) >>> ((Int32.toInt64 (33 : Int32)).toUInt64 &&& Int64.toUInt64 63)).toInt64) &&& (((1 : Int32) <<< (nI n &&& (31 : Int32))) - (1 : Int32)) = nI v := ev
    rw [ev']
    refine cr_print hn hv hP hFG hz ?_
    intro p2 a2 b2 d2 g2 h2 hPR2 hz2
    rw [nI_1]
    refine ih (i + 1) _ p2 _ _ _ _ _ _ _ h2 _ (by omega) hPR2 hz2 ?_
    have e : drM n c lo hi gh 0 (k + 1) s r = drM n c lo hi gh 0 k (lcg s) (prR n c lo hi gh 0 (nI v) r) := by
      show drM n c lo hi gh 0 k (lcg s) (prR n c lo hi gh 0 (lcw s &&& (((1 : Int32) <<< (nI n &&& 31)) - 1)) r) = _
      rw [ev]
    rw [e] at hK
    exact hK
theorem sp_drawn8 {n m : Nat} (hn : n ≤ 8) (hm : m ≤ 20) {c lo hi gh : Int32} {C : Int64 → (Nat → Int32) → (Nat → Int32) → Prop} :
    ∀ (k i : Nat) (s : Int64) (r p : Nat → Int32), i + k = m → (∀ p', C (drM n c lo hi gh 0 k s r).1 (drM n c lo hi gh 0 k s r).2 p') → P_X8_drawn_L28 (nI n) c lo hi gh 0 (nI m) C (k + 1) (nI i) s r p := by
  intro k
  induction k with
  | zero =>
    intro i s r p him hK
    unfold P_X8_drawn_L28
    have e : i = m := by omega
    subst e
    exact br_t (nI_le (Nat.le_refl _) (by omega)) (hK _)
  | succ k ih =>
    intro i s r p him hK
    unfold P_X8_drawn_L28
    refine br_f (nI_ge (by omega) (by omega)) (sp_printOn2 hn ?_)
    intro p'
    rw [nI_1]
    exact ih (i + 1) _ _ p' (by omega) hK
theorem rt_drawn {L n q : Nat} (hn : n ≤ 8) {xs : Nat → Int32} {x3 c lo hi gh qd la be ri a b d g pr tq tl tb' tr ta tp td tg tn : Int32} {sd : Int64} {p hs fg qu th tf tu r mt' mp : Nat → Int32} {N : Int64 → (Nat → Int32) → Int32 → Int32 → Int32 → Int32 → Int32 → Int32 → Int32 → Int32 → Int32 → (Nat → Int32) → (Nat → Int32) → (Nat → Int32) → Int64 → (Nat → Int32) → (Nat → Int32) → Prop}
    (hb1 : vp_in (x3 + 1) L) (hC : CR n q qd la be ri a b d g pr hs fg qu r) (hz : Z30 r) (hzt : Z30 mt')
    (hN : ∀ s' p' a1 a2 a3 a4 a5 a6 a7 a8 a9 f1 f2 f3 t' mp', Z30 t' → N s' p' a1 a2 a3 a4 a5 a6 a7 a8 a9 f1 f2 f3 s' t' mp') :
    P_T804 L xs x3 sd (nI n) c lo hi gh p qd la be ri a b d g pr hs fg qu tq tl tb' tr ta tp td tg tn th tf tu (nI n) c lo hi gh sd 0 r mt' mp N := by
  unfold P_T804
  refine ⟨hb1, ?_⟩
  generalize xs (Int32.toNatClampNeg (x3 + 1)) = z
  have hNR := hN sd p tq tl tb' tr ta tp td tg tn th tf tu mt' mp hzt
  unfold P_X7_drawn
  by_cases hz1 : z < 1
  · refine br_t hz1 ?_
    unfold P_X8_drawn
    exact sp_in1 (m := 20) (by omega) rfl (fun _ => if00' (eqN hNR)) (fun j h1 h2 ez => absurd hz1 (by rw [ez, show (1 : Int32) = nI 1 from rfl]; exact nI_nlt h1 (by omega)))
  · refine br_f hz1 ?_
    by_cases hz2 : z ≤ (20 : Int32)
    · refine br_t hz2 ?_
      rcases on_off z (n := 21) (by omega) with h | ⟨m, hm, rfl⟩
      · rcases h with h | h
        · exact absurd (Int32.lt_trans h (by decide)) hz1
        · exact absurd hz2 (Int32.not_le.mpr (Int32.lt_of_lt_of_le (by decide) h))
      · unfold P_X5_copyFrom
        have hC2 := CR.cpy (hs' := th) (fg' := tf) (qu' := tu) hn hC
        refine ⟨m + 1, ?_⟩
        rw [← nI_0]
        refine sp_drawn7 hn (by omega) hC2.2.2.2.2.2.2.2.2 m 0 sd p _ _ _ _ _ _ _ _ r (by omega) hC2.1 hC2.2.2.2.2.2.2.2.1 ?_
        intro p' la' be' a' b' d' g' pr' hs' hP'
        unfold P_X8_drawn
        refine sp_in1 (m := 20) (by omega) rfl (fun h => ?_) (fun j' h1 h2 ez => if10' (sp_copy ?_))
        · rcases h with h | h
          · exact absurd h hz1
          · exact absurd hz2 (Int32.not_le.mpr h)
        · rw [cp_eq hz hzt, tn25]
          refine ⟨m + 1, ?_⟩
          rw [← nI_0]
          refine sp_drawn8 hn (by omega) m 0 sd r mp (by omega) ?_
          intro mp'
          refine eqN2 ?_ (hN _ _ _ _ _ _ _ _ _ _ _ _ _ _ _ _ (Z30.drM hn m sd r hz))
          rw [hP'.2.2.2.2.1, hC.1.2.2.2.2.1]
    · refine br_f hz2 ?_
      unfold P_X8_drawn
      exact sp_in1 (m := 20) (by omega) rfl (fun _ => if00' (eqN hNR)) (fun j h1 h2 ez => absurd (by rw [ez, show (20 : Int32) = nI 20 from rfl]; exact nI_le h2 (by omega)) hz2)
