/-! ===== pure rows: judge, the reference and the loops ===== -/
theorem z30_rests {n : Nat} (hn : n ≤ 8) (c : Int32) (k : Nat) {t : Nat → Int32} (h : Z30 t) : Z30 (rst n c k t) := by
  unfold rst
  exact itr_inv (F := fun _ s => cool n c s) (s0 := t) (fun _ (s : Nat → Int32) => Z30 s) h k (fun _ s _ hs => hs.cool hn c) k (Nat.le_refl k)
theorem z30_dJ {n q : Nat} (hn : n ≤ 8) (hq : q ≤ 8) {c lo hi gh : Int32} {D : Nat} {t : Nat → Int32} (h21 : t 21 = nI q) (h : Z30 t) : Z30 (dJ n c lo hi gh D t).2 := by
  unfold dJ
  split
  · split
    · rw [h21, nI_clamp (by omega)]
      exact (h.upd (by omega) _).upd (by omega) _
    · exact h
  · split
    · split
      · exact Z30.prLs hn _ q t hq h21 h
      · exact h
    · split
      · split
        · exact z30_rests hn c _ h
        · exact h
      · split
        · exact h
        · split
          · exact h
          · split
            · split
              · rename_i hh; exact h.upd (by omega) _
              · exact h
            · exact h
theorem sp_judged {n q D : Nat} (h1 : 1 ≤ n) (hn : n ≤ 8) (hD : D < 10000) (hq : q ≤ 8) {c lo hi gh : Int32} {p t : Nat → Int32} (e21 : t 21 = nI q) {K : Int32 → (Nat → Int32) → (Nat → Int32) → Prop}
    (hK : ∀ p', K (nI (bn (dJ n c lo hi gh D t).1)) (dJ n c lo hi gh D t).2 p') :
    P_X8_judged (nI (D / 1000)) (nI (D % 1000)) (nI n) c lo hi gh 0 t p K := by
  unfold P_X8_judged
  rw [m100 (show D % 1000 < 10000 by omega), d100 (show D % 1000 < 10000 by omega), m10 (show D % 1000 % 100 < 10000 by omega), d10 (show D % 1000 % 100 < 10000 by omega)]
  have ret : ∀ p' β t', dJ n c lo hi gh D t = (β, t') → K (nI (bn β)) t' p' := by
    intro p' β t' h
    have := hK p'
    rw [h] at this
    exact this
  have hw : D % 1000 < 1000 := Nat.mod_lt _ (by decide)
  have is : ∀ k, k < 7 → nI (D / 1000) = nI k → D / 1000 = k := fun k hk h => nI_lit (by omega) (by omega) h
  refine ⟨fun h => ?_, fun h => ?_, fun h => ?_, fun h => ?_, fun h => ?_, fun h => ?_, fun h => ?_⟩
  · rw [nI_toInt (by omega)] at h
    apply ret _ false
    unfold dJ
    rw [if_neg (by omega), if_neg (by omega), if_neg (by omega), if_neg (by omega), if_neg (by omega), if_neg (by omega)]
  · have e := is 1 (by omega) h
    have eJ : dJ n c lo hi gh D t = if D % 1000 < 2 ^ n ∧ ¬ t 21 = 8 then (true, upd (upd t (13 + (t 21).toNatClampNeg) (nI (D % 1000))) 21 (t 21 + 1)) else (false, t) := by
      unfold dJ
      rw [if_pos e]
    by_cases hin : D % 1000 < 2 ^ n
    · refine sp_isLineOn hn hin (if10 ?_)
      rw [tn21]
      refine ⟨fun z => ?_, fun z => ret _ false _ (by rw [eJ, if_neg (fun y => y.2 z)])⟩
      unfold P_X8_putOn
      have hq8 : q < 8 := by
        rcases Nat.lt_or_ge q 8 with h | h
        · exact h
        · exact absurd (by rw [e21, show q = 8 by omega]; rfl) z
      rw [tn21, e21, show (13 : Int32) = nI 13 from rfl, nI_add, nI_clamp (by omega)]
      refine ⟨vp_in_nI (by omega) (by omega), ?_⟩
      have e : upd t (13 + q) (nI (D % 1000)) 21 = nI q := by rw [upd_at, if_neg (by omega)]; exact e21
      rw [e]
      refine ret _ true _ ?_
      rw [eJ, if_pos ⟨hin, z⟩, e21, nI_clamp (by omega)]
    · exact sp_isLineOff hn (Or.inr (nI_le (by omega) (by omega))) (if00 (ret _ false _ (by rw [eJ, if_neg (fun y => hin y.1)])))
  · have e := is 2 (by omega) h
    have eJ : dJ n c lo hi gh D t = if 1 ≤ D % 1000 ∧ D % 1000 ≤ 9 then (decide ((prLs n c lo hi gh 0 (D % 1000) t).1 = D % 1000), (prLs n c lo hi gh 0 (D % 1000) t).2) else (false, t) := by
      unfold dJ
      rw [if_neg (by omega), if_pos e]
    refine sp_in1 (m := 9) (by omega) rfl (fun z => if00 (ret _ false _ ?_)) (fun j hj1 hj2 ej => if10 ?_)
    · rw [eJ, if_neg]
      intro y
      rcases z with z | z
      · exact absurd z (nI_nlt (b := 1) y.1 (by omega))
      · exact absurd z (nI_nlt (a := 9) y.2 (by omega))
    · have ej' := nI_lit (by omega) (by omega) ej
      refine sp_printLines hn (by omega) hq e21 ?_
      intro p'
      rw [if_pos ⟨by omega, by omega⟩] at eJ
      have hle := prLs_le (n := n) (c := c) (lo := lo) (hi := hi) (gh := gh) (dd := 0) (D % 1000) t
      refine ⟨fun z => ret _ false _ ?_, fun z => ret _ true _ ?_⟩
      · rw [eJ, decide_eq_false (fun y => z (by rw [y]))]
      · have := nI_lit (by omega) (by omega) z
        rw [eJ, decide_eq_true this]
  · have e := is 3 (by omega) h
    have eJ : dJ n c lo hi gh D t = if 1 ≤ D % 1000 ∧ D % 1000 ≤ 99 then (true, rst n c (D % 1000) t) else (false, t) := by
      unfold dJ
      rw [if_neg (by omega), if_neg (by omega), if_pos e]
    by_cases ha : D % 1000 / 100 = 0
    · rw [ha]
      have e2 : D % 1000 % 100 = D % 1000 := by omega
      rw [e2]
      refine cnt_itr (P := fun fu i s => P_X8_judged_L118 (nI n) c (nI 0) (nI (D % 1000)) (fun t9 => ((¬ nI 0 = 0 → K 0 t9 p) ∧ (nI 0 = 0 → ((nI (D % 1000) ≤ 0 → K 0 t9 p) ∧ (¬ nI (D % 1000) ≤ 0 → K 1 t9 p))))) fu i s) (D % 1000) (by omega) (fun _ s => cool n c s) t ?_ ?_
      · intro fu
        unfold P_X8_judged_L118
        refine br_t (nI_le (Nat.le_refl _) (by omega)) ⟨fun z => absurd nI_0 z, fun _ => ⟨fun z => ?_, fun z => ?_⟩⟩
        · have h0 : D % 1000 = 0 := by
            rcases Nat.eq_zero_or_pos (D % 1000) with h | h
            · exact h
            · exact absurd z (nI_nle h (by omega))
          refine ret _ false _ ?_
          rw [eJ, if_neg (by omega), h0]
          rfl
        · have h0 : ¬ D % 1000 = 0 := fun y => z (by rw [y]; decide)
          refine ret _ true _ ?_
          rw [eJ, if_pos ⟨by omega, by omega⟩]
          rfl
      · intro fu k s hk _ hp
        unfold P_X8_judged_L118
        refine br_f (nI_ge hk (by omega)) ⟨fun z => absurd nI_0 z, fun _ => sp_coolOn hn ?_⟩
        rw [nI_1]
        exact hp
    · have hne : ¬ nI (D % 1000 / 100) = 0 := nI_ne0 (by omega) (by omega)
      have fin : ((¬ nI (D % 1000 / 100) = 0 → K 0 t p) ∧ (nI (D % 1000 / 100) = 0 → ((nI (D % 1000 % 100) ≤ 0 → K 0 t p) ∧ (¬ nI (D % 1000 % 100) ≤ 0 → K 1 t p)))) := ⟨fun _ => ret _ false _ (by rw [eJ, if_neg (by omega)]), fun z => absurd z hne⟩
      refine ⟨1, ?_⟩
      unfold P_X8_judged_L118
      exact ⟨fun _ => fin, fun _ => ⟨fun _ => fin, fun z => absurd z hne⟩⟩
  · have e := is 4 (by omega) h
    have eJ : dJ n c lo hi gh D t = (decide (t 25 = nI (D % 1000)), t) := by
      unfold dJ
      rw [if_neg (by omega), if_neg (by omega), if_neg (by omega), if_pos e]
    rw [tn25]
    exact ⟨fun z => ret _ false _ (by rw [eJ, decide_eq_false z]), fun z => ret _ true _ (by rw [eJ, decide_eq_true z])⟩
  · have e := is 5 (by omega) h
    have eJ : dJ n c lo hi gh D t = (decide (D % 1000 / 100 < n) && decide (D % 1000 % 100 = bn (bz (t 22) (D % 1000 / 100))), t) := by
      unfold dJ
      rw [if_neg (by omega), if_neg (by omega), if_neg (by omega), if_neg (by omega), if_pos e]
    rw [tn22]
    by_cases hd : D % 1000 / 100 < n
    · rw [decide_eq_true hd, Bool.true_and] at eJ
      refine sp_isDotOn h1 hn hd (if10 ⟨fun z => ret _ false _ ?_, fun z => sp_has (by omega) ?_⟩)
      · have hbn := bn_le (bz (t 22) (D % 1000 / 100))
        have : 2 ≤ D % 1000 % 100 := by
          rcases Nat.lt_or_ge (D % 1000 % 100) 2 with h | h
          · exact absurd z (nI_ge (b := 2) h (by omega))
          · exact h
        rw [eJ, decide_eq_false (by omega)]
      · have h2 : D % 1000 % 100 < 2 := by
          rcases Nat.lt_or_ge (D % 1000 % 100) 2 with h | h
          · exact h
          · exact absurd (nI_le (a := 2) h (by omega)) z
        have hx : D % 1000 % 100 = 0 ∨ D % 1000 % 100 = 1 := by omega
        cases hb : bz (t 22) (D % 1000 / 100) with
        | true =>
          rw [hb] at eJ
          rcases hx with hx | hx
          · rw [hx] at eJ ⊢
            exact ⟨fun _ => ⟨fun _ => ret _ false _ eJ, fun y => absurd y (by decide)⟩, fun y => absurd y (by decide)⟩
          · rw [hx] at eJ ⊢
            exact ⟨fun y => absurd rfl y, fun _ => ⟨fun y => absurd rfl y, fun _ => ret _ true _ eJ⟩⟩
        | false =>
          rw [hb] at eJ
          rcases hx with hx | hx
          · rw [hx] at eJ ⊢
            exact ⟨fun _ => ⟨fun y => absurd rfl y, fun _ => ret _ true _ eJ⟩, fun y => absurd y (by decide)⟩
          · rw [hx] at eJ ⊢
            exact ⟨fun y => absurd rfl y, fun _ => ⟨fun _ => ret _ false _ eJ, fun y => absurd y (by decide)⟩⟩
    · rw [decide_eq_false hd, Bool.false_and] at eJ
      exact sp_isDotOff h1 hn (Or.inr (nI_le (by omega) (by omega))) (if00 (ret _ false _ eJ))
  · have e := is 6 (by omega) h
    have eJ : dJ n c lo hi gh D t = if D % 1000 / 100 = 0 ∧ D % 1000 / 10 < 5 ∧ mtb (fun i => t (8 + i)) (D % 1000 / 10) (nI (D % 1000 % 10)) = true then (true, upd t (8 + D % 1000 / 10) (nI (D % 1000 % 10))) else (false, t) := by
      unfold dJ
      rw [if_neg (by omega), if_neg (by omega), if_neg (by omega), if_neg (by omega), if_neg (by omega), if_pos e]
    refine ⟨fun z => ret _ false _ ?_, fun z => ?_⟩
    · rw [eJ, if_neg (fun y => z (by rw [y.1]; rfl))]
    · have hz : D % 1000 / 100 = 0 := nI_lit (b := 0) (by omega) (by omega) z
      rw [show D % 1000 % 100 / 10 = D % 1000 / 10 by omega, show D % 1000 % 100 % 10 = D % 1000 % 10 by omega]
      by_cases h5 : D % 1000 / 10 < 5
      · rw [show (8 : Int32) = nI 8 from rfl, nI_add, nI_clamp (by omega : 8 + D % 1000 / 10 < 2 ^ 31)]
        refine sp_maySet h5 (fun hm => if10' ⟨vp_in_nI (by omega) (by omega), ret _ true _ ?_⟩) (fun hm => if00' (ret _ false _ ?_))
        · rw [eJ, if_pos ⟨hz, h5, mtb_iff.mpr hm⟩]
        · rw [eJ, if_neg (fun y => hm (mtb_iff.mp y.2.2))]
      · exact sp_maySetOff (Or.inr (nI_le (by omega) (by omega))) (if00' (ret _ false _ (by rw [eJ, if_neg (fun y => h5 y.2.1)])))
def jR (n : Nat) (c lo hi gh : Int32) (f : Nat → Nat) : Nat → Nat → (Nat → Int32) → Int32 × (Nat → Int32)
  | 0, _, t => (-9, t)
  | m + 1, k, t => if (dJ n c lo hi gh (f k) t).1 then jR n c lo hi gh f m (k + 1) (dJ n c lo hi gh (f k) t).2 else (nI k, (dJ n c lo hi gh (f k) t).2)
theorem pow4 {m : Nat} (hm : m ≤ 4) : 10000 ^ m ≤ 10000000000000000 := by
  have h := Nat.pow_le_pow_right (show 0 < 10000 by decide) hm
  exact h
theorem lN_lit10 : (10000 : Int64) = lN 10000 := rfl
theorem pow_s (k : Nat) : 10000 ^ k * 10000 = 10000 ^ (k + 1) := (Nat.pow_succ 10000 k).symm
theorem sp_tenT {m : Nat} (hm : m ≤ 4) {K : Int64 → Prop} (hK : K (lN (10000 ^ m))) : P_X8_tenThousands (nI m) K := by
  unfold P_X8_tenThousands
  have key : ∀ j k, k + j = m → P_X8_tenThousands_L4 (nI m) (fun x => K x) (j + 1) (lN (10000 ^ k)) (nI k) := by
    intro j
    induction j with
    | zero =>
      intro k hk
      unfold P_X8_tenThousands_L4
      have e : k = m := by omega
      subst e
      exact br_t (nI_le (Nat.le_refl _) (by omega)) hK
    | succ j ih =>
      intro k hk
      unfold P_X8_tenThousands_L4
      refine br_f (nI_ge (by omega) (by omega)) ?_
      rw [lN_lit10, lN_mul, pow_s, nI_1]
      exact ih (k + 1) (by omega)
  exact ⟨m + 1, key m 0 (by omega)⟩
theorem sp_L19 {m : Nat} (h1 : 1 ≤ m) (hm : m ≤ 4) {b2 : Int64} {C : Int64 → Prop} (hC : C (lN (10000 ^ (m - 1)))) : ∃ ne : Nat, P_X7_judge_L19 (nI m) b2 C ne (1 : Int64) (1 : Int32) := by
  have key : ∀ j k, k + 1 + j = m → P_X7_judge_L19 (nI m) b2 C (j + 1) (lN (10000 ^ k)) (nI (k + 1)) := by
    intro j
    induction j with
    | zero =>
      intro k hk
      unfold P_X7_judge_L19
      have e : k = m - 1 := by omega
      subst e
      exact br_t (nI_le (by omega) (by omega)) hC
    | succ j ih =>
      intro k hk
      unfold P_X7_judge_L19
      refine br_f (nI_ge (by omega) (by omega)) ?_
      rw [lN_lit10, lN_mul, pow_s, nI_1]
      exact ih (k + 1) (by omega)
  exact ⟨m - 1 + 1, key (m - 1) 0 (by omega)⟩
theorem sp_L88 {m k R : Nat} (hk : k < m) (hm : m ≤ 4) (hR : R < 2 ^ 63) {x6 : Int32} {C : Int64 → Prop} (hC : C (lN (R / 10000 ^ (m - 1 - k)))) : ∃ ne : Nat, P_X7_judge_L88 (nI m) (lN R) x6 C ne (lN R) (nI (k + 1)) := by
  have key : ∀ j i, k + 1 + i + j = m → P_X7_judge_L88 (nI m) (lN R) x6 C (j + 1) (lN (R / 10000 ^ i)) (nI (k + 1 + i)) := by
    intro j
    induction j with
    | zero =>
      intro i hi'
      unfold P_X7_judge_L88
      have e : i = m - 1 - k := by omega
      subst e
      exact br_t (nI_le (by omega) (by omega)) hC
    | succ j ih =>
      intro i hi'
      unfold P_X7_judge_L88
      refine br_f (nI_ge (by omega) (by omega)) ?_
      have hle : R / 10000 ^ i ≤ R := Nat.div_le_self _ _
      rw [lN_lit10, pk_lDiv (by omega) (by decide) (by decide), Nat.div_div_eq_div_mul, pow_s, nI_1]
      exact ih (i + 1) (by omega)
  have h := key (m - 1 - k) 0 (by omega)
  rw [Nat.pow_zero, Nat.div_one] at h
  exact ⟨_, h⟩
def fJ (R m k : Nat) : Nat := R / 10000 ^ (m - 1 - k) % 10000
theorem sp_judgeL7 {n m R : Nat} (hn : n ≤ 8) (hm : m ≤ 4) (hR : R < 2 ^ 63) {c lo hi gh : Int32} {C1 : Int32 → (Nat → Int32) → Int32 → Int32 → Int32 → Int32 → Int32 → Int32 → Int32 → Int32 → Int32 → (Nat → Int32) → (Nat → Int32) → (Nat → Int32) → Prop}
    {C2 : (Nat → Int32) → Int32 → Int32 → Int32 → Int32 → Int32 → Int32 → Int32 → Int32 → Int32 → (Nat → Int32) → (Nat → Int32) → (Nat → Int32) → Prop} (hC2 : ∀ p a1 a2 a3 a4 a5 a6 a7 a8 a9 f1 f2 f3, C1 (-9) p a1 a2 a3 a4 a5 a6 a7 a8 a9 f1 f2 f3 → C2 p a1 a2 a3 a4 a5 a6 a7 a8 a9 f1 f2 f3) :
    ∀ j k q t p a1 a2 a3 a4 a5 a6 a7 a8 a9 f1 f2 f3, k + j = m → CR n q a1 a2 a3 a4 a5 a6 a7 a8 a9 f1 f2 f3 t →
      (∀ p a1 a2 a3 a4 a5 a6 a7 a8 a9 f1 f2 f3, C1 (jR n c lo hi gh (fJ R m) j k t).1 p a1 a2 a3 a4 a5 a6 a7 a8 a9 f1 f2 f3) →
      P_X7_judge_L73 (nI n) c lo hi gh (nI m) (lN R) C1 C2 (j + 1) (nI k) p a1 a2 a3 a4 a5 a6 a7 a8 a9 f1 f2 f3 := by
  intro j
  induction j with
  | zero =>
    intro k q t p a1 a2 a3 a4 a5 a6 a7 a8 a9 f1 f2 f3 hk hC hK
    unfold P_X7_judge_L73
    exact br_t (nI_le (by omega) (by omega)) (hC2 _ _ _ _ _ _ _ _ _ _ _ _ _ (hK _ _ _ _ _ _ _ _ _ _ _ _ _))
  | succ j ih =>
    intro k q t p a1 a2 a3 a4 a5 a6 a7 a8 a9 f1 f2 f3 hk hC hK
    unfold P_X7_judge_L73
    refine br_f (nI_ge (by omega) (by omega)) ?_
    rw [nI_1]
    refine sp_L88 (by omega) hm hR ?_
    have hle : R / 10000 ^ (m - 1 - k) ≤ R := Nat.div_le_self _ _
    rw [lN_lit10, pk_lRem (by omega) (by decide) (by decide), lN_i]
    have hj : jR n c lo hi gh (fJ R m) (j + 1) k t = if (dJ n c lo hi gh (fJ R m k) t).1 then jR n c lo hi gh (fJ R m) j (k + 1) (dJ n c lo hi gh (fJ R m k) t).2 else (nI k, (dJ n c lo hi gh (fJ R m k) t).2) := rfl
    refine sp_canBe (D := fJ R m k) hn (Nat.mod_lt _ (by decide)) hC ?_
    intro p' b1 b2 b3 b4 b5 b6 b7 b8 b9 g1 g2 g3 hq
    cases hb : (dJ n c lo hi gh (fJ R m k) t).1 with
    | true =>
      rw [hb] at hj
      obtain ⟨q', hC'⟩ := hq hb
      refine if10' (ih (k + 1) q' _ _ _ _ _ _ _ _ _ _ _ _ _ _ (by omega) hC' ?_)
      rw [hj, if_pos rfl] at hK
      exact hK
    | false =>
      rw [hb] at hj
      refine if00' ?_
      rw [hj, if_neg (by decide)] at hK
      exact hK _ _ _ _ _ _ _ _ _ _ _ _ _
theorem prLs_21 {n : Nat} (hn : n ≤ 8) {c lo hi gh dd : Int32} : ∀ (k q : Nat) (r : Nat → Int32), q ≤ 8 → r 21 = nI q → ∃ q', q' ≤ 8 ∧ (prLs n c lo hi gh dd k r).2 21 = nI q' := by
  intro k
  induction k with
  | zero => intro q r hq h; exact ⟨q, hq, h⟩
  | succ k ih =>
    intro q r hq h21
    show ∃ q', q' ≤ 8 ∧ (if r 21 ≤ 0 then (0, r) else if 0 < r 24 ∨ r 13 = 0 then _ else (0, r)).2 21 = nI q'
    by_cases h0 : r 21 ≤ 0
    · rw [if_pos h0]; exact ⟨q, hq, h21⟩
    · rw [if_neg h0]
      by_cases h1 : 0 < r 24 ∨ r 13 = 0
      · rw [if_pos h1]
        have hq0 : q ≠ 0 := fun e => h0 (by rw [h21, e]; decide)
        have hcl : (r 21).toNatClampNeg - 1 = q - 1 := by rw [h21, nI_clamp (by omega)]
        rw [hcl]
        refine ih (q - 1) _ (by omega) ?_
        rw [upd_at, if_neg (by omega), prR_fr hn c lo hi gh dd _ _ 21 (by omega) (by omega), tkM_at (by omega), if_pos rfl]
      · rw [if_neg h1]; exact ⟨q, hq, h21⟩
theorem rst_fr {n : Nat} (hn : n ≤ 8) (c : Int32) (k : Nat) (t : Nat → Int32) {j : Nat} (hj : 8 ≤ j) : rst n c k t j = t j := by
  unfold rst
  exact itr_inv (F := fun _ s => cool n c s) (s0 := t) (fun _ (s : Nat → Int32) => s j = t j) rfl k (fun _ s _ hs => ((cool_ag hn c (f := s) (g := s) (fun _ _ => rfl)).2.1 j (by omega)).trans hs) k (Nat.le_refl k)
theorem dJ_21 {n q : Nat} (hn : n ≤ 8) (hq : q ≤ 8) {c lo hi gh : Int32} {D : Nat} {t : Nat → Int32} (h21 : t 21 = nI q) : ∃ q', q' ≤ 8 ∧ (dJ n c lo hi gh D t).2 21 = nI q' := by
  unfold dJ
  split
  · split
    · rename_i hh
      refine ⟨q + 1, ?_, ?_⟩
      · rcases Nat.lt_or_ge q 8 with h | h
        · omega
        · exact absurd (by rw [h21, show q = 8 by omega]; rfl) hh.2
      · dsimp only
        rw [upd_at, if_pos rfl, h21, nI_1]
    · exact ⟨q, hq, h21⟩
  · split
    · split
      · exact prLs_21 hn _ q t hq h21
      · exact ⟨q, hq, h21⟩
    · split
      · split
        · exact ⟨q, hq, (rst_fr hn c _ t (by omega)).trans h21⟩
        · exact ⟨q, hq, h21⟩
      · split
        · exact ⟨q, hq, h21⟩
        · split
          · exact ⟨q, hq, h21⟩
          · split
            · split
              · rename_i hh
                refine ⟨q, hq, ?_⟩
                dsimp only
                rw [upd_at, if_neg (by omega)]
                exact h21
              · exact ⟨q, hq, h21⟩
            · exact ⟨q, hq, h21⟩
theorem sp_judgeL8 {n m R : Nat} (h1 : 1 ≤ n) (hn : n ≤ 8) (hm : m ≤ 4) (hR : R < 2 ^ 63) {c lo hi gh : Int32} {C1 : Int32 → (Nat → Int32) → (Nat → Int32) → Prop}
    {C2 : (Nat → Int32) → (Nat → Int32) → Prop} (hC2 : ∀ t p, C1 (-9) t p → C2 t p) :
    ∀ j k q t p, k + j = m → q ≤ 8 → t 21 = nI q → Z30 t → (∀ t' p, Z30 t' → C1 (jR n c lo hi gh (fJ R m) j k t).1 t' p) →
      P_X8_judge_L43 (nI n) c lo hi gh 0 (nI m) (lN R) C1 C2 (j + 1) (nI k) t p := by
  intro j
  induction j with
  | zero =>
    intro k q t p hk hq h21 hz hK
    unfold P_X8_judge_L43
    exact br_t (nI_le (by omega) (by omega)) (hC2 _ _ (hK _ _ hz))
  | succ j ih =>
    intro k q t p hk hq h21 hz hK
    unfold P_X8_judge_L43
    refine br_f (nI_ge (by omega) (by omega)) ?_
    rw [show (1 : Int32) = nI 1 from rfl, pk_sub (by omega), pk_sub (by omega)]
    have hp := pow4 (show m - 1 - k ≤ 4 by omega)
    have hp0 : 0 < 10000 ^ (m - 1 - k) := Nat.pow_pos (by decide)
    refine sp_tenT (by omega) ⟨fun z => ?_, ?_⟩
    · have := (pk_lEQ (a := 10000 ^ (m - 1 - k)) (b := 0) (by omega) (by omega)).mp z
      omega
    have hle : R / 10000 ^ (m - 1 - k) ≤ R := Nat.div_le_self _ _
    rw [pk_lDiv hR hp0 (by omega), lN_lit10, pk_lRem (by omega) (by decide) (by decide), lN_i]
    have hj : jR n c lo hi gh (fJ R m) (j + 1) k t = if (dJ n c lo hi gh (fJ R m k) t).1 then jR n c lo hi gh (fJ R m) j (k + 1) (dJ n c lo hi gh (fJ R m k) t).2 else (nI k, (dJ n c lo hi gh (fJ R m k) t).2) := rfl
    have hD : fJ R m k < 10000 := Nat.mod_lt _ (by decide)
    have e1 : R / 10000 ^ (m - 1 - k) % 10000 = fJ R m k := rfl
    rw [e1, m1000 hD, d1000 hD]
    refine sp_judged h1 hn hD hq h21 ?_
    intro p'
    have hz' := z30_dJ (c := c) (lo := lo) (hi := hi) (gh := gh) (D := fJ R m k) hn hq h21 hz
    rw [show nI k + nI 1 = nI (k + 1) from nI_1 k]
    cases hb : (dJ n c lo hi gh (fJ R m k) t).1 with
    | true =>
      rw [hb] at hj
      obtain ⟨q', hq', h21'⟩ := dJ_21 (c := c) (lo := lo) (hi := hi) (gh := gh) (D := fJ R m k) hn hq h21
      refine if10' (ih (k + 1) q' _ _ (by omega) hq' h21' hz' ?_)
      rw [hj, if_pos rfl] at hK
      exact hK
    | false =>
      rw [hb] at hj
      refine if00' ?_
      rw [hj, if_neg (by decide)] at hK
      exact hK _ _ hz'
theorem rt_judge {L n q : Nat} (h1 : 1 ≤ n) (hn : n ≤ 8) {xs : Nat → Int32} {x3 c lo hi gh qd la be ri a b d g pr tq tl tb' tr ta tp td tg tn : Int32} {p hs fg qu th tf tu r mt' mp : Nat → Int32} {N : (Nat → Int32) → Int32 → Int32 → Int32 → Int32 → Int32 → Int32 → Int32 → Int32 → Int32 → (Nat → Int32) → (Nat → Int32) → (Nat → Int32) → (Nat → Int32) → (Nat → Int32) → Prop}
    (hb1 : vp_in (x3 + 1) L) (hb2 : vp_in (x3 + 2) L) (hb3 : vp_in (x3 + 3) L) (hC : CR n q qd la be ri a b d g pr hs fg qu r) (hz : Z30 r) (hzt : Z30 mt')
    (hN : ∀ p' a1 a2 a3 a4 a5 a6 a7 a8 a9 f1 f2 f3 t' mp', Z30 t' → N p' a1 a2 a3 a4 a5 a6 a7 a8 a9 f1 f2 f3 t' mp') :
    P_T510 L xs x3 (nI n) c lo hi gh p qd la be ri a b d g pr hs fg qu tq tl tb' tr ta tp td tg tn th tf tu (nI n) c lo hi gh 0 r mt' mp N := by
  unfold P_T510
  refine ⟨hb1, hb2, hb3, ?_⟩
  generalize xs (Int32.toNatClampNeg (x3 + 1)) = z1
  generalize (((Int32.toInt64 (xs (Int32.toNatClampNeg (x3 + 2)))) <<< (Int32.toInt64 (32 : Int32) &&& (63 : Int64))) ||| ((Int32.toInt64 (xs (Int32.toNatClampNeg (x3 + 3)))) &&& (4294967295 : Int64))) = z2
  have hNR := hN p tq tl tb' tr ta tp td tg tn th tf tu mt' mp hzt
  unfold P_X7_judge
  by_cases hlt : z1 < 1
  · refine br_t hlt ?_
    unfold P_X8_judge
    refine sp_in1 (m := 4) (by omega) rfl (fun _ => if00 (eqN hNR)) (fun j hj1 hj2 ej => ?_)
    rw [ej] at hlt
    exact absurd hlt (nI_nlt (b := 1) hj1 (by omega))
  refine br_f hlt ?_
  by_cases hgt : ¬ z1 ≤ 4
  · refine br_f hgt ?_
    unfold P_X8_judge
    refine sp_in1 (m := 4) (by omega) rfl (fun _ => if00 (eqN hNR)) (fun j hj1 hj2 ej => ?_)
    rw [ej] at hgt
    exact absurd (nI_le (b := 4) hj2 (by omega)) hgt
  have hgt := Decidable.not_not.mp hgt
  refine br_t hgt ?_
  obtain ⟨m, hm4, rfl⟩ := nI_of2 (M := 4) (n := 4) (by decide) (fun z => hlt (Int32.lt_trans z (by decide))) hgt
  have hm1 : 1 ≤ m := by
    rcases Nat.eq_zero_or_pos m with h | h
    · subst h; exact absurd (by decide) hlt
    · exact h
  have hp := pow4 hm4
  have hp0 : 0 < 10000 ^ m := Nat.pow_pos (by decide)
  have epow : lN (10000 ^ (m - 1)) * 10000 = lN (10000 ^ m) := by
    rw [lN_lit10, lN_mul, pow_s, Nat.sub_add_cancel hm1]
  have bad : (z2 < 0 ∨ lN (10000 ^ m) ≤ z2) → P_X8_judge (nI m) z2 (nI n) c lo hi gh 0 r mt' mp (fun r267 t268 p269 => (((-2 : Int32) = r267 → N p tq tl tb' tr ta tp td tg tn th tf tu t268 p269) ∧ (¬ (-2 : Int32) = r267 → False))) := by
    intro h
    unfold P_X8_judge
    refine sp_in1 (m := 4) (by omega) rfl (fun _ => if00 (eqN hNR)) (fun j hj1 hj2 ej => if10 (sp_tenT hm4 ?_))
    refine sp_inN ?_ (if00' (eqN hNR))
    rcases h with h | h
    · exact Or.inl h
    · refine Or.inr (Int64.lt_of_lt_of_le ?_ h)
      rw [show (1 : Int64) = lN 1 from rfl, lN_sub hp0]
      exact (pk_lLT (by omega) (by omega)).mpr (by omega)
  refine sp_L19 hm1 hm4 ?_
  rw [epow]
  refine ⟨fun h => bad (Or.inl (lgc_lt.mp h)), fun h => ⟨fun h2 => ?_, fun h2 => bad (Or.inr (Int64.not_lt.mp (fun y => h2 (lgc_lt.mpr y))))⟩⟩
  obtain ⟨R, hR, rfl⟩ := pk_lOf (fun y => h (lgc_lt.mpr y))
  have hR2 : R < 10000 ^ m := (pk_lLT hR (by omega)).mp (lgc_lt.mp h2)
  unfold P_X5_copyFrom
  refine ⟨m + 1, ?_⟩
  refine sp_judgeL7 hn hm4 hR (fun _ _ _ _ _ _ _ _ _ _ _ _ _ hh => hh) m 0 q r _ _ _ _ _ _ _ _ _ _ _ _ _ (by omega) (hC.cpy hn) ?_
  intro p' a1 a2 a3 a4 a5 a6 a7 a8 a9 f1 f2 f3
  unfold P_X8_judge
  refine sp_in1 (m := 4) (by omega) rfl (fun z => ?_) (fun j hj1 hj2 ej => if10 (sp_tenT hm4 ?_))
  · rcases z with z | z
    · exact absurd z (nI_nlt (b := 1) hm1 (by omega))
    · exact absurd z (nI_nlt (a := 4) hm4 (by omega))
  · refine sp_inY ((pk_lLE (a := 0) (by omega) hR).mpr (Nat.zero_le _)) ?_ (if10' (sp_copy ?_))
    · rw [show (1 : Int64) = lN 1 from rfl, lN_sub hp0]
      exact (pk_lLE hR (by omega)).mpr (by omega)
    · rw [cp_eq hz hzt]
      refine ⟨m + 1, ?_⟩
      refine sp_judgeL8 h1 hn hm4 hR (fun _ _ hh => hh) m 0 q r _ (by omega) hC.2.2.1 hC.2.2.2.1 hz ?_
      intro t' p'' hz'
      exact eqN (hN _ _ _ _ _ _ _ _ _ _ _ _ _ _ _ hz')
