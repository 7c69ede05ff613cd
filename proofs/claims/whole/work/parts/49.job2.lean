/-! ===== pure rows: a job told ===== -/
theorem sp_forget4 {fl : Nat → Int32} {K : (Nat → Int32) → Prop} (hK : ∀ fl', (∀ k, k < 2 → fl' k = 0) → K fl') : P_X4_forgetAll fl K := by
  unfold P_X4_forgetAll
  refine cnt_itr (P := fun fu i s => P_X4_forgetAll_L2 (fun h' => K h') fu i s) 2 (by omega) (fun k s => upd s k (vp_nar .boolean 0)) fl ?_ ?_
  · intro fu
    unfold P_X4_forgetAll_L2
    refine br_t (by decide) (hK _ (fun k hk => ?_))
    exact itr_inv (F := fun k s => upd s k (vp_nar .boolean 0)) (s0 := fl) (fun m (s : Nat → Int32) => ∀ k, k < m → s k = 0) (fun k hk => absurd hk (by omega)) 2 (fun m s hm hs' k hk => by
      rw [upd_at]
      by_cases h : k = m
      · rw [if_pos h]; decide
      · rw [if_neg h]; exact hs' k (by omega)) 2 (Nat.le_refl _) k hk
  · intro fu k s hk _ hp
    unfold P_X4_forgetAll_L2
    refine br_f (nI_ge (b := 2) hk (by omega)) ⟨vp_in_nI hk (by omega), ?_⟩
    rw [nI_1, nI_clamp (by omega)]
    exact hp
/-- the row of a job that is told -/
def jRow (Q : Nat) (rt ri r : Nat → Int32) : Nat → Int32 := fun j => if j = 24 then 99 else if j = 21 then nI Q else if 13 ≤ j ∧ j < 13 + Q then ri (j - 13) else if 8 ≤ j ∧ j < 13 then rt (j - 8) else if j < 30 then 0 else r j
theorem sp_jobRow {Q : Nat} (hQ : Q ≤ 8) {rt ri r : Nat → Int32} {C : (Nat → Int32) → Prop} (hK : ∀ n22, upd (upd n22 21 (nI Q)) 24 99 = jRow Q rt ri r → C n22) :
    ∃ ne : Nat, P_X8_job_L14 (fun n12 => (∃ ne : Nat, P_X8_job_L89 rt (fun n17 => (∃ ne : Nat, P_X8_job_L117 (nI Q) ri C ne (0 : Int32) n17)) ne (0 : Int32) n12)) ne (0 : Int32) r := by
  refine cnt_itr (P := fun fu i s => P_X8_job_L14 _ fu i s) 30 (by omega) (fun k s => upd s k 0) r ?_ ?_
  · intro fu
    unfold P_X8_job_L14
    refine br_t (by decide) ?_
    have d1 := itr_inv (F := fun k s => upd s k 0) (s0 := r) (fun m (s : Nat → Int32) => ∀ j, s j = if j < m then 0 else r j) (fun j => by rw [if_neg (by omega)]) 30 (fun m s hm hs j => by
      rw [upd_at, hs j]
      by_cases h : j = m
      · rw [if_pos h, if_pos (by omega)]
      · rw [if_neg h]
        by_cases h2 : j < m
        · rw [if_pos h2, if_pos (by omega)]
        · rw [if_neg h2, if_neg (by omega)]) 30 (Nat.le_refl _)
    generalize itr (fun k s => upd s k 0) 30 r = r1 at d1 ⊢
    refine cnt_itr (P := fun fu i s => P_X8_job_L89 rt _ fu i s) 5 (by omega) (fun k s => upd s (8 + k) (rt k)) r1 ?_ ?_
    · intro fu
      unfold P_X8_job_L89
      refine br_t (by decide) ?_
      have d2 := itr_inv (F := fun k s => upd s (8 + k) (rt k)) (s0 := r1) (fun m (s : Nat → Int32) => ∀ j, s j = if 8 ≤ j ∧ j < 8 + m then rt (j - 8) else r1 j) (fun j => by rw [if_neg (by omega)]) 5 (fun m s hm hs j => by
        rw [upd_at, hs j]
        by_cases h : j = 8 + m
        · rw [if_pos h, if_pos (by omega)]; congr 1; omega
        · rw [if_neg h]
          by_cases h2 : 8 ≤ j ∧ j < 8 + m
          · rw [if_pos h2, if_pos (by omega)]
          · rw [if_neg h2, if_neg (by omega)]) 5 (Nat.le_refl _)
      generalize itr (fun k s => upd s (8 + k) (rt k)) 5 r1 = r2 at d2 ⊢
      refine cnt_itr (P := fun fu i s => P_X8_job_L117 (nI Q) ri _ fu i s) Q (by omega) (fun k s => upd s (13 + k) (ri k)) r2 ?_ ?_
      · intro fu
        unfold P_X8_job_L117
        refine br_t (nI_le (Nat.le_refl _) (by omega)) ?_
        have d3 := itr_inv (F := fun k s => upd s (13 + k) (ri k)) (s0 := r2) (fun m (s : Nat → Int32) => ∀ j, s j = if 13 ≤ j ∧ j < 13 + m then ri (j - 13) else r2 j) (fun j => by rw [if_neg (by omega)]) Q (fun m s hm hs j => by
          rw [upd_at, hs j]
          by_cases h : j = 13 + m
          · rw [if_pos h, if_pos (by omega)]; congr 1; omega
          · rw [if_neg h]
            by_cases h2 : 13 ≤ j ∧ j < 13 + m
            · rw [if_pos h2, if_pos (by omega)]
            · rw [if_neg h2, if_neg (by omega)]) Q (Nat.le_refl _)
        generalize itr (fun k s => upd s (13 + k) (ri k)) Q r2 = r3 at d3 ⊢
        have e : upd (upd r3 21 (nI Q)) 24 99 = jRow Q rt ri r := by
          funext j
          unfold jRow
          rw [upd_at, upd_at, d3 j, d2 j, d1 j]
        exact hK _ e
      · intro fu k s hk _ hp
        unfold P_X8_job_L117
        refine br_f (nI_ge hk (by omega)) ⟨vp_in_nI (by omega) (by omega), ?_⟩
        rw [show (13 : Int32) = nI 13 from rfl, nI_add, nI_1, nI_clamp (by omega : k < 2 ^ 31), nI_clamp (by omega : 13 + k < 2 ^ 31)]
        exact ⟨vp_in_nI (by omega) (by omega), hp⟩
    · intro fu k s hk _ hp
      unfold P_X8_job_L89
      refine br_f (nI_ge (b := 5) hk (by omega)) ⟨vp_in_nI (by omega) (by omega), ?_⟩
      rw [show (8 : Int32) = nI 8 from rfl, nI_add, nI_1, nI_clamp (by omega : k < 2 ^ 31), nI_clamp (by omega : 8 + k < 2 ^ 31)]
      exact ⟨vp_in_nI (by omega) (by omega), hp⟩
  · intro fu k s hk _ hp
    unfold P_X8_job_L14
    refine br_f (nI_ge (b := 30) hk (by omega)) ⟨vp_in_nI (by omega) (by omega), ?_⟩
    rw [nI_1, nI_clamp (by omega : k < 2 ^ 31)]
    exact hp
theorem job_CR {f : Nat → Nat} {n Q t : Nat} (hn1 : 1 ≤ n) (hn8 : n ≤ 8) (hQ8 : Q ≤ 8) (ht : 18 ≤ t) (ho : ∀ i, i < t → ok f i) {hs fg qu rt ri r : Nat → Int32} (h1 : ∀ k, k < 8 → hs k = 0) (h2 : ∀ i, i < 5 → fg i = nI (f (13 + i) - 48)) (h3 : ∀ i, i < Q → qu i = lv f (18 + (n + 1) * i) n)
    (h4 : ∀ i, i < 5 → rt i = nI (f (13 + i) - 48)) (h5 : ∀ i, i < Q → ri i = lv f (18 + (n + 1) * i) n) : CR n Q (nI Q) 0 0 99 0 0 0 0 0 hs fg qu (jRow Q rt ri r) := by
  have z : ∀ j, ¬ j = 24 → ¬ j = 21 → (j < 8 ∨ 13 + Q ≤ j) → j < 30 → jRow Q rt ri r j = 0 := by
    intro j a b c d
    unfold jRow
    rw [if_neg a, if_neg b, if_neg (by omega), if_neg (by omega), if_pos d]
  have o : ∀ i, i < 5 → 48 ≤ f (13 + i) ∧ f (13 + i) ≤ 57 := fun i hi' => (ho (13 + i) (by omega)).2.2.2.2.1 (by omega) (by omega)
  refine ⟨⟨fun k hk => ?_, fun i hi' => ?_, z _ (by omega) (by omega) (by omega) (by omega), z _ (by omega) (by omega) (by omega) (by omega), z _ (by omega) (by omega) (by omega) (by omega), z _ (by omega) (by omega) (by omega) (by omega), z _ (by omega) (by omega) (by omega) (by omega), z _ (by omega) (by omega) (by omega) (by omega), z _ (by omega) (by omega) (by omega) (by omega)⟩, rfl, hQ8, ?_, fun i hi' => ⟨?_, ?_⟩, ?_, ⟨99, by omega, rfl⟩, fun k _ hk => h1 k hk, fun i hi' => ?_, fun i hi' => ?_⟩
  · rw [h1 k hk, z k (by omega) (by omega) (by omega) (by omega)]
  · unfold jRow
    rw [if_neg (by omega), if_neg (by omega), if_neg (by omega), if_pos (by omega), show 8 + i - 8 = i by omega, h4 i hi', h2 i hi']
  · unfold jRow
    rw [if_neg (by omega), if_pos rfl]
  · unfold jRow
    rw [if_neg (by omega), if_neg (by omega), if_pos (by omega), show 13 + i - 13 = i by omega, h5 i hi', h3 i hi']
  · rw [h3 i hi']; exact lvl_lt n hn8
  · unfold jRow
    rw [if_pos rfl]
  · have := o i hi'
    exact ⟨f (13 + i) - 48, by omega, h2 i hi'⟩
  · rw [h2 (i + 1) (by omega), h2 i (by omega)]
    have := o i (by omega)
    have h := (ho (13 + (i + 1)) (by omega)).2.2.2.2.2.1 (by omega) (by omega)
    rw [show 13 + (i + 1) - 1 = 13 + i by omega] at h
    exact nI_le (by omega) (by omega)
theorem rt_job {L : Nat} {xs : Nat → Int32} {x3 tl ml d1 c1 p1 lo1 hi1 gh1 qd la be ri' a b d g pr co md mc mp mlo mhi mgh ma rd rc rp rm lA : Int32} {le mt hs fg qu fl r ik rl rt ri : Nat → Int32}
    {N : Int32 → Int32 → Int32 → Int32 → Int32 → Int32 → Int32 → Int32 → Int32 → Int32 → Int32 → Int32 → Int32 → Int32 → Int32 → (Nat → Int32) → (Nat → Int32) → (Nat → Int32) → Int32 → (Nat → Int32) → Int32 → Int32 → Int32 → Int32 → Int32 → Int32 → Int32 → Int32 → Int32 → Int32 → Int32 → Int32 → (Nat → Int32) → (Nat → Int32) → (Nat → Int32) → (Nat → Int32) → (Nat → Int32) → Prop}
    (hR : R_txt tl le ml mt) (hz30 : Z30 r)
    (hN0 : ∀ a1 a2 a3 a4 a5 f1 f2 f3, N d1 c1 p1 lo1 hi1 gh1 qd la be ri' a b d g pr hs fg qu co fl md mc mp mlo mhi mgh ma a1 a2 a3 a4 a5 r ik f1 f2 f3)
    (hN1 : ∀ n c w lo hi gh Q hs fg qu fl r ik a1 a2 a3 a4 a5 f1 f2 f3, 1 ≤ n → n ≤ 8 → 1 ≤ c → c ≤ 4 → 1 ≤ w → w ≤ 8 → CR n Q (nI Q) 0 0 99 0 0 0 0 0 hs fg qu r → Z30 r → (∀ k, k < 2 → fl k = 0) → (∀ k, k < 2 → ik k = 0) →
      N (nI n) (nI c) (nI w) lo hi gh (nI Q) 0 0 99 0 0 0 0 0 hs fg qu 0 fl (nI n) (nI c) (nI w) lo hi gh 0 a1 a2 a3 a4 a5 r ik f1 f2 f3) :
    P_T201 L xs x3 tl le d1 c1 p1 lo1 hi1 gh1 qd la be ri' a b d g pr hs fg qu co fl ml md mc mp mlo mhi mgh ma rd rc rp rm lA mt r ik rl rt ri N := by
  unfold P_T201
  obtain ⟨t, f, ht, e1, e2, hle, hmt⟩ := txt_f hR
  subst e1; subst e2
  have h9 : ∀ k, k < 200 → ¬ nI k = (-9 : Int32) := by
    intro k hk z
    have h3 := congrArg Int32.toInt z
    rw [nI_toInt (by omega)] at h3
    have h4 : (-9 : Int32).toInt = -9 := by decide
    omega
  unfold P_X7_job
  rcases ff_cases f t with ⟨p, hp, hb, ho⟩ | hall
  · refine sp_ffBad ht hle hp ho hb (br_f (h9 p (by omega)) ?_)
    unfold P_X8_job
    exact sp_readText ht hmt (fun p' rd rc rp rm la rl rt ri hp' hb' ho' => br_f (h9 p' (by omega)) (eqN (hN0 _ _ _ _ _ _ _ _))) (fun rd rc rp rm la rl rt ri hh => absurd (hh p hp) hb) (fun rd rc rp rm la rl rt ri hh => absurd (hh p hp) hb)
  · refine sp_ffGood ht hle hall (fun h => br_f (h9 t (by omega)) ?_) (fun h18 hm0 => br_t rfl ?_)
    · unfold P_X8_job
      refine sp_readText ht hmt (fun p' rd rc rp rm la rl rt ri hp' hb' ho' => absurd (hall p' hp') hb') (fun rd rc rp rm la rl rt ri _ _ => br_f (h9 t (by omega)) (eqN (hN0 _ _ _ _ _ _ _ _))) (fun rd rc rp rm la rl rt ri _ h1 h2 => ?_)
      rcases h with h | h
      · omega
      · exact absurd h2 h
    · have o1 := ok_2 (hall 1 (by omega))
      have o2 := (hall 2 (by omega)).2.2.1 rfl
      have o3 := (hall 3 (by omega)).2.2.2.1 rfl
      obtain ⟨n, hn⟩ : ∃ n, n = f 1 - 48 := ⟨_, rfl⟩
      obtain ⟨Q, hQ⟩ : ∃ Q, Q = (t - 18) / (n + 1) := ⟨_, rfl⟩
      have hE : f 1 - 47 = n + 1 := by omega
      rw [hE] at hm0
      have htQ : t = 18 + (n + 1) * Q := by
        have := Nat.div_add_mod (t - 18) (n + 1)
        rw [hm0, ← hQ] at this
        omega
      have hQ8 : Q ≤ 8 := by
        rcases Nat.eq_zero_or_pos Q with h | h
        · omega
        · have hmul : (n + 1) * Q = (n + 1) * (Q - 1) + (n + 1) := by
            rw [← Nat.mul_succ]; congr 1; omega
          obtain ⟨g1, g2⟩ := dm (n := n) (q := Q - 1) (ρ := 0) (k := 18 + (n + 1) * (Q - 1) + 0) (by omega) rfl
          have := (hall (18 + (n + 1) * (Q - 1) + 0) (by omega)).2.2.2.2.2.2.1 (by omega) (by rw [hE]; exact g1)
          rw [hE, g2] at this
          omega
      refine sp_tellHead (fun i hi' => (hle i (by omega)).1) (fun i hi' => hall i (by omega)) (sp_startAnew ?_)
      intro h' hh'
      refine sp_tellTable (fun i hi' => (hle i (by omega)).1) (fun i hi' => hall i (by omega)) ?_
      intro fg' hfg'
      refine sp_tellQueue (n := n) (Q := Q) ht hle (by omega) (by omega) (by omega) h18 htQ hQ8 ?_
      intro qu' hqu'
      unfold P_X0_forgetAll
      refine sp_forget4 ?_
      intro fl' hfl'
      unfold P_X8_job
      refine sp_readText ht hmt (fun p' rd rc rp rm la rl rt ri hp' hb' ho' => absurd (hall p' hp') hb') (fun rd rc rp rm la rl rt ri _ hh => ?_) (fun rd rc rp rm la rl rt ri _ h1 h2 hRI => br_t rfl ?_)
      · rcases hh with hh | hh
        · omega
        · rw [hE] at hh; exact absurd hm0 hh
      · obtain ⟨⟨r1, r2, r3, r4, r5⟩, q, ρ, ek, hρ, hq, hq2, erm, hla0, hla, hri⟩ := hRI.2 h18
        rw [← hn] at ek hρ hri
        obtain ⟨g1, g2⟩ := dm hρ ek
        have eq : q = Q := by rw [← g2, hQ]
        have e0 : ρ = 0 := by rw [← g1]; exact hm0
        rw [eq] at erm hri
        rw [erm, r1 (by omega), r2 (by omega), r3 (by omega), tn0]
        have l0' := (r4 0 (by omega)).2.2 (by omega)
        have l1' := (r4 1 (by omega)).2.2 (by omega)
        have l2' := (r4 2 (by omega)).2.2 (by omega)
        have t1 : Int32.toNatClampNeg (1 : Int32) = 1 := rfl
        have t2 : Int32.toNatClampNeg (2 : Int32) = 2 := rfl
        rw [t1, t2, l0', l1', l2']
        refine sp_jobRow (Q := Q) (r := r) hQ8 ?_
        intro n22 e22
        rw [tn21, tn24, e22]
        refine eqN ?_
        rw [← hn]
        refine hN1 n (f 2 - 48) (f 3 - 48) _ _ _ Q _ _ _ _ _ _ _ _ _ _ _ _ _ _ (by omega) (by omega) (by omega) (by omega) (by omega) (by omega) (job_CR (by omega) (by omega) hQ8 h18 hall hh' hfg' hqu' (fun i hi' => r5 i hi' (by omega)) hri) ?_ hfl' ?_
        · intro k hk
          unfold jRow
          rw [if_neg (by omega), if_neg (by omega), if_neg (by omega), if_neg (by omega), if_neg (by omega)]
          exact hz30 k hk
        · intro k hk
          rw [upd_at]
          by_cases h : k = 1
          · rw [if_pos h]; decide
          · rw [if_neg h, upd_at, if_pos (by omega)]; decide
