/-! ===== pure rows: judge ===== -/
/-- a told doing on a row: can it be, and the row behind it -/
def dJ (n : Nat) (c lo hi gh : Int32) (D : Nat) (t : Nat → Int32) : Bool × (Nat → Int32) :=
  if D / 1000 = 1 then (if D % 1000 < 2 ^ n ∧ ¬ t 21 = 8 then (true, upd (upd t (13 + (t 21).toNatClampNeg) (nI (D % 1000))) 21 (t 21 + 1)) else (false, t))
  else if D / 1000 = 2 then (if 1 ≤ D % 1000 ∧ D % 1000 ≤ 9 then (decide ((prLs n c lo hi gh 0 (D % 1000) t).1 = D % 1000), (prLs n c lo hi gh 0 (D % 1000) t).2) else (false, t))
  else if D / 1000 = 3 then (if 1 ≤ D % 1000 ∧ D % 1000 ≤ 99 then (true, rst n c (D % 1000) t) else (false, t))
  else if D / 1000 = 4 then (decide (t 25 = nI (D % 1000)), t)
  else if D / 1000 = 5 then (decide (D % 1000 / 100 < n) && decide (D % 1000 % 100 = bn (bz (t 22) (D % 1000 / 100))), t)
  else if D / 1000 = 6 then (if D % 1000 / 100 = 0 ∧ D % 1000 / 10 < 5 ∧ mtb (fun i => t (8 + i)) (D % 1000 / 10) (nI (D % 1000 % 10)) = true then (true, upd t (8 + D % 1000 / 10) (nI (D % 1000 % 10))) else (false, t))
  else (false, t)
theorem prLs_le {n : Nat} {c lo hi gh dd : Int32} : ∀ (k : Nat) (r : Nat → Int32), (prLs n c lo hi gh dd k r).1 ≤ k := by
  intro k
  induction k with
  | zero => intro r; exact Nat.le_refl 0
  | succ k ih =>
    intro r
    show (if r 21 ≤ 0 then (0, r) else if 0 < r 24 ∨ r 13 = 0 then _ else (0, r)).1 ≤ k + 1
    by_cases h0 : r 21 ≤ 0
    · rw [if_pos h0]; exact Nat.zero_le _
    · rw [if_neg h0]
      by_cases h1 : 0 < r 24 ∨ r 13 = 0
      · rw [if_pos h1]; exact Nat.succ_le_succ (ih _)
      · rw [if_neg h1]; exact Nat.zero_le _
theorem d1000 {D : Nat} (hD : D < 10000) : nI D / 1000 = nI (D / 1000) := pk_div (d := 1000) (by omega) (by decide) (by decide)
theorem m1000 {D : Nat} (hD : D < 10000) : nI D - nI D / 1000 * 1000 = nI (D % 1000) := pk_rem (d := 1000) (by omega) (by decide) (by decide)
theorem d100 {D : Nat} (hD : D < 10000) : nI D / 100 = nI (D / 100) := pk_div (d := 100) (by omega) (by decide) (by decide)
theorem m100 {D : Nat} (hD : D < 10000) : nI D - nI D / 100 * 100 = nI (D % 100) := pk_rem (d := 100) (by omega) (by decide) (by decide)
theorem d10 {D : Nat} (hD : D < 10000) : nI D / 10 = nI (D / 10) := pk_div (d := 10) (by omega) (by decide) (by decide)
theorem m10 {D : Nat} (hD : D < 10000) : nI D - nI D / 10 * 10 = nI (D % 10) := pk_rem (d := 10) (by omega) (by decide) (by decide)
theorem nI_lit {a b : Nat} (ha : a < 2 ^ 31) (hb : b < 2 ^ 31) (h : nI a = nI b) : a = b := (nI_eq ha hb).mp h
theorem sp_isPauseOn {w : Nat} (h1 : 1 ≤ w) (h2 : w ≤ 99) {K : Int32 → Prop} (hK : K 1) : P_X7_isPause (nI w) K := by
  unfold P_X7_isPause
  exact br_f (nI_nlt (b := 1) h1 (by omega)) (br_f (nI_nlt (a := 99) (by omega) (by omega)) hK)
theorem sp_isPauseOff {w : Nat} (hw : w < 1000) (h : ¬ (1 ≤ w ∧ w ≤ 99)) {K : Int32 → Prop} (hK : K 0) : P_X7_isPause (nI w) K := by
  unfold P_X7_isPause
  by_cases h0 : w = 0
  · subst h0; exact br_t (by decide) hK
  · exact br_f (nI_nlt (b := 1) (by omega) (by omega)) (br_t (nI_lt (a := 99) (by omega) (by omega)) hK)
theorem sp_canBe {n q D : Nat} (hn : n ≤ 8) (hD : D < 10000) {c lo hi gh tq tl tb' tr ta tp td tg tn : Int32} {p th tf tu t : Nat → Int32} (hC : CR n q tq tl tb' tr ta tp td tg tn th tf tu t) {K : Int32 → (Nat → Int32) → Int32 → Int32 → Int32 → Int32 → Int32 → Int32 → Int32 → Int32 → Int32 → (Nat → Int32) → (Nat → Int32) → (Nat → Int32) → Prop}
    (hK : ∀ p' a1 a2 a3 a4 a5 a6 a7 a8 a9 f1 f2 f3, ((dJ n c lo hi gh D t).1 = true → ∃ q', CR n q' a1 a2 a3 a4 a5 a6 a7 a8 a9 f1 f2 f3 (dJ n c lo hi gh D t).2) → K (nI (bn (dJ n c lo hi gh D t).1)) p' a1 a2 a3 a4 a5 a6 a7 a8 a9 f1 f2 f3) :
    P_X7_canBe (nI D) (nI n) c lo hi gh p tq tl tb' tr ta tp td tg tn th tf tu K := by
  unfold P_X7_canBe
  rw [m1000 hD, d1000 hD, d100 (show D % 1000 < 10000 by omega), m10 (show D % 1000 < 10000 by omega), d10 (show D % 1000 < 10000 by omega)]
  rw [m10 (show D % 1000 / 10 < 10000 by omega)]
  have no : ∀ p' a1 a2 a3 a4 a5 a6 a7 a8 a9 f1 f2 f3, (dJ n c lo hi gh D t).1 = false → K 0 p' a1 a2 a3 a4 a5 a6 a7 a8 a9 f1 f2 f3 := by
    intro p' a1 a2 a3 a4 a5 a6 a7 a8 a9 f1 f2 f3 h
    have := hK p' a1 a2 a3 a4 a5 a6 a7 a8 a9 f1 f2 f3 (fun z => by rw [h] at z; cases z)
    rw [h] at this
    exact this
  have yes : ∀ p' a1 a2 a3 a4 a5 a6 a7 a8 a9 f1 f2 f3 t', dJ n c lo hi gh D t = (true, t') → (∃ q', CR n q' a1 a2 a3 a4 a5 a6 a7 a8 a9 f1 f2 f3 t') → K 1 p' a1 a2 a3 a4 a5 a6 a7 a8 a9 f1 f2 f3 := by
    intro p' a1 a2 a3 a4 a5 a6 a7 a8 a9 f1 f2 f3 t' h hq
    have := hK p' a1 a2 a3 a4 a5 a6 a7 a8 a9 f1 f2 f3 (fun z => by rw [h]; exact hq)
    rw [h] at this
    exact this
  have hw : D % 1000 < 1000 := Nat.mod_lt _ (by decide)
  have is : ∀ k, k < 7 → nI (D / 1000) = nI k → D / 1000 = k := fun k hk h => nI_lit (by omega) (by omega) h
  refine ⟨fun h => ?_, fun h => ?_, fun h => ?_, fun h => ?_, fun h => ?_, fun h => ?_, fun h => ?_⟩
  · rw [nI_toInt (by omega)] at h
    apply no
    unfold dJ
    rw [if_neg (by omega), if_neg (by omega), if_neg (by omega), if_neg (by omega), if_neg (by omega), if_neg (by omega)]
  · have e := is 1 (by omega) h
    have eqd := hC.2.1
    have hq8 := hC.2.2.1
    have e21 := hC.2.2.2.1
    unfold P_X7_canPut
    by_cases hin : D % 1000 < 2 ^ n
    · refine sp_hasDotsOn hn hin (if10 ?_)
      unfold P_X5_isFull
      rw [eqd]
      by_cases h8 : q < 8
      · refine br_t (by rw [show (8 : Int32) = nI 8 from rfl]; exact nI_lt h8 (by omega)) (if00 ?_)
        unfold P_X5_append
        refine br_f (by rw [show (8 : Int32) = nI 8 from rfl]; exact nI_ge h8 (by omega)) ⟨vp_in_nI h8 (by omega), bool1, ?_⟩
        rw [nI_1, nI_clamp (by omega)]
        refine yes _ _ _ _ _ _ _ _ _ _ _ _ _ (upd (upd t (13 + q) (nI (D % 1000))) 21 (nI (q + 1))) ?_ ⟨q + 1, hC.put h8 hin⟩
        unfold dJ
        rw [if_pos e, e21, if_pos ⟨hin, fun z => by have := nI_lit (b := 8) (by omega) (by omega) z; omega⟩, nI_clamp (by omega), nI_1]
      · have e8 : q = 8 := by omega
        subst e8
        refine br_f (by decide) (if10 ⟨bool0, no _ _ _ _ _ _ _ _ _ _ _ _ _ ?_⟩)
        unfold dJ
        rw [if_pos e, if_neg (fun z => z.2 e21)]
    · refine sp_hasDotsOff hn (Or.inr (nI_le (by omega) (by omega))) (if00 ⟨bool0, ?_⟩)
      rw [eqd]
      refine no _ _ _ _ _ _ _ _ _ _ _ _ _ ?_
      unfold dJ
      rw [if_pos e, if_neg (fun z => hin z.1)]
  · have e := is 2 (by omega) h
    have eJ : dJ n c lo hi gh D t = if 1 ≤ D % 1000 ∧ D % 1000 ≤ 9 then (decide ((prLs n c lo hi gh 0 (D % 1000) t).1 = D % 1000), (prLs n c lo hi gh 0 (D % 1000) t).2) else (false, t) := by
      unfold dJ
      rw [if_neg (by omega), if_pos e]
    by_cases h0 : D % 1000 = 0
    · refine br_t (by rw [h0]; decide) (no _ _ _ _ _ _ _ _ _ _ _ _ _ ?_)
      rw [eJ, if_neg (by omega)]
    · refine br_f (nI_nlt (b := 1) (by omega) (by omega)) ?_
      by_cases h9 : 9 < D % 1000
      · refine br_t (nI_lt (a := 9) h9 (by omega)) (no _ _ _ _ _ _ _ _ _ _ _ _ _ ?_)
        rw [eJ, if_neg (by omega)]
      · refine br_f (nI_nlt (a := 9) (by omega) (by omega)) (sp_printSome hn (by omega) hC ?_)
        intro q' p' qd' la' be' ri' a' b' d' g' pr' hs' qu' hC'
        rw [if_pos ⟨by omega, by omega⟩] at eJ
        have hle := prLs_le (n := n) (c := c) (lo := lo) (hi := hi) (gh := gh) (dd := 0) (D % 1000) t
        refine ⟨fun z => ?_, fun z => ?_⟩
        · refine no _ _ _ _ _ _ _ _ _ _ _ _ _ ?_
          rw [eJ]
          exact decide_eq_false (fun y => z (by rw [y]))
        · refine yes _ _ _ _ _ _ _ _ _ _ _ _ _ (prLs n c lo hi gh 0 (D % 1000) t).2 ?_ ⟨q', hC'⟩
          have := nI_lit (by omega) (by omega) z
          rw [eJ, decide_eq_true this]
  · have e := is 3 (by omega) h
    have eJ : dJ n c lo hi gh D t = if 1 ≤ D % 1000 ∧ D % 1000 ≤ 99 then (true, rst n c (D % 1000) t) else (false, t) := by
      unfold dJ
      rw [if_neg (by omega), if_neg (by omega), if_pos e]
    unfold P_X7_canPause
    by_cases h9 : 1 ≤ D % 1000 ∧ D % 1000 ≤ 99
    · refine sp_isPauseOn h9.1 h9.2 (if10' (sp_rest hn (by omega) ⟨bool1, ?_⟩))
      exact yes _ _ _ _ _ _ _ _ _ _ _ _ _ _ (by rw [eJ, if_pos h9]) ⟨q, hC.rests hn c _⟩
    · refine sp_isPauseOff hw h9 (if00' ⟨bool0, no _ _ _ _ _ _ _ _ _ _ _ _ _ ?_⟩)
      rw [eJ, if_neg h9]
  · have e := is 4 (by omega) h
    have eJ : dJ n c lo hi gh D t = (decide (t 25 = nI (D % 1000)), t) := by
      unfold dJ
      rw [if_neg (by omega), if_neg (by omega), if_neg (by omega), if_pos e]
    rw [hC.1.2.2.2.2.1] at eJ
    refine ⟨fun z => no _ _ _ _ _ _ _ _ _ _ _ _ _ ?_, fun z => yes _ _ _ _ _ _ _ _ _ _ _ _ _ t ?_ ⟨q, hC⟩⟩
    · rw [eJ]; exact decide_eq_false z
    · rw [eJ, decide_eq_true z]
  · have e := is 5 (by omega) h
    have eJ : dJ n c lo hi gh D t = (decide (D % 1000 / 100 < n) && decide (D % 1000 % 100 = bn (bz (t 22) (D % 1000 / 100))), t) := by
      unfold dJ
      rw [if_neg (by omega), if_neg (by omega), if_neg (by omega), if_neg (by omega), if_pos e]
    rw [hC.1.2.2.1] at eJ
    have hbn := bn_le (bz tl (D % 1000 / 100))
    refine ⟨fun z => no _ _ _ _ _ _ _ _ _ _ _ _ _ ?_, fun z => ?_⟩
    · rw [eJ]
      have : ¬ D % 1000 / 10 % 10 = 0 := fun y => z (by rw [y]; rfl)
      rw [decide_eq_false (show ¬ D % 1000 % 100 = bn (bz tl (D % 1000 / 100)) by omega), Bool.and_false]
    · have hz : D % 1000 / 10 % 10 = 0 := nI_lit (b := 0) (by omega) (by omega) z
      by_cases hd : D % 1000 / 100 < n
      · refine sp_hasDotOn hn hd (if10 (sp_bit ?_))
        rw [tb_val]
        refine ⟨fun y => no _ _ _ _ _ _ _ _ _ _ _ _ _ ?_, fun y => yes _ _ _ _ _ _ _ _ _ _ _ _ _ t ?_ ⟨q, hC⟩⟩
        · rw [eJ]
          rw [decide_eq_false (show ¬ D % 1000 % 100 = bn (bz tl (D % 1000 / 100)) from fun x => y (by rw [← x]; congr 1; omega)), Bool.and_false]
        · have := nI_lit (by omega) (by omega) y
          rw [eJ, decide_eq_true hd, decide_eq_true (show D % 1000 % 100 = bn (bz tl (D % 1000 / 100)) by omega)]
          rfl
      · refine sp_hasDotOff (Or.inr (nI_le (by omega) (by omega))) (if00 (no _ _ _ _ _ _ _ _ _ _ _ _ _ ?_))
        rw [eJ, decide_eq_false hd, Bool.false_and]
  · have e := is 6 (by omega) h
    have eJ : dJ n c lo hi gh D t = if D % 1000 / 100 = 0 ∧ D % 1000 / 10 < 5 ∧ mtb (fun i => t (8 + i)) (D % 1000 / 10) (nI (D % 1000 % 10)) = true then (true, upd t (8 + D % 1000 / 10) (nI (D % 1000 % 10))) else (false, t) := by
      unfold dJ
      rw [if_neg (by omega), if_neg (by omega), if_neg (by omega), if_neg (by omega), if_neg (by omega), if_pos e]
    refine ⟨fun z => no _ _ _ _ _ _ _ _ _ _ _ _ _ ?_, fun z => ?_⟩
    · rw [eJ, if_neg (fun y => z (by rw [y.1]; rfl))]
    · have hz : D % 1000 / 100 = 0 := nI_lit (b := 0) (by omega) (by omega) z
      have e10 : D % 1000 / 10 % 10 = D % 1000 / 10 := by omega
      rw [e10]
      unfold P_X7_canTell
      by_cases h5 : D % 1000 / 10 < 5
      · refine sp_mayTell h5 (fun hm => if10' ⟨vp_in_nI h5 (by omega), if10 ?_⟩) (fun hm => if00' (if00 (no _ _ _ _ _ _ _ _ _ _ _ _ _ ?_)))
        · rw [nI_clamp (by omega)]
          exact yes _ _ _ _ _ _ _ _ _ _ _ _ _ _ (by rw [eJ, if_pos ⟨hz, h5, mtb_iff.mpr ((mt_row hC h5 _).mpr hm)⟩]) ⟨q, hC.fig h5 hm⟩
        · rw [eJ, if_neg (fun y => hm ((mt_row hC h5 _).mp (mtb_iff.mp y.2.2)))]
      · refine sp_mayTellOff (Or.inr (nI_le (by omega) (by omega))) (if00' (if00 (no _ _ _ _ _ _ _ _ _ _ _ _ _ ?_)))
        rw [eJ, if_neg (fun y => h5 y.2.1)]
