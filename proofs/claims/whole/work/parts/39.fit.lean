/-! ===== pure rows: how many are right; fit ===== -/
theorem marks_1 {n : Nat} (lo hi gh w : Int32) (f : Nat → Int32) (s : M4) : ∃ k, k ≤ n ∧ (marks n lo hi gh w f s).1 = s.1 + nI k := by
  unfold marks
  have key : ∀ m, ∃ k, k ≤ m ∧ (itr (cmF lo hi gh w f) m s).1 = s.1 + nI k := by
    intro m
    induction m with
    | zero => exact ⟨0, Nat.le_refl _, by show s.1 = s.1 + nI 0; rw [nI_0]; simp⟩
    | succ m ih =>
      obtain ⟨k, hk, e⟩ := ih
      show ∃ k, k ≤ m + 1 ∧ (cmF lo hi gh w f m (itr (cmF lo hi gh w f) m s)).1 = s.1 + nI k
      generalize itr (cmF lo hi gh w f) m s = t at e
      unfold cmF
      by_cases hb : bz w m = true
      · rw [if_pos hb]
        by_cases h1 : lo ≤ f m
        · rw [if_pos h1]
          by_cases h2 : hi < f m
          · rw [if_pos h2]; exact ⟨k, by omega, e⟩
          · rw [if_neg h2]
            refine ⟨k + 1, by omega, ?_⟩
            show t.1 + 1 = _
            rw [e, Int32.add_assoc, nI_1]
        · rw [if_neg h1]; exact ⟨k, by omega, e⟩
      · rw [if_neg hb]
        by_cases h1 : f m ≤ gh
        · rw [if_pos h1]; exact ⟨k, by omega, e⟩
        · rw [if_neg h1]; exact ⟨k, by omega, e⟩
  exact key n
theorem prR_25 {n : Nat} (hn : n ≤ 8) (c lo hi gh dd w : Int32) (r : Nat → Int32) : ∃ k, k ≤ n ∧ prR n c lo hi gh dd w r 25 = r 25 + nI k := by
  obtain ⟨k, hk, e⟩ := marks_1 (n := n) lo hi gh w (heat n (plsM n (cool n c r) w (fun _ => 0)) (fun k => decide (¬ plsM n (cool n c r) w (fun _ => 0) k = -9) && !(bz dd k)) (cool n c r)) ((heat n (plsM n (cool n c r) w (fun _ => 0)) (fun k => decide (¬ plsM n (cool n c r) w (fun _ => 0) k = -9) && !(bz dd k)) (cool n c r)) 25, (heat n (plsM n (cool n c r) w (fun _ => 0)) (fun k => decide (¬ plsM n (cool n c r) w (fun _ => 0) k = -9) && !(bz dd k)) (cool n c r)) 26, (heat n (plsM n (cool n c r) w (fun _ => 0)) (fun k => decide (¬ plsM n (cool n c r) w (fun _ => 0) k = -9) && !(bz dd k)) (cool n c r)) 27, (heat n (plsM n (cool n c r) w (fun _ => 0)) (fun k => decide (¬ plsM n (cool n c r) w (fun _ => 0) k = -9) && !(bz dd k)) (cool n c r)) 28)
  refine ⟨k, hk, ?_⟩
  have e25 : (heat n (plsM n (cool n c r) w (fun _ => 0)) (fun k => decide (¬ plsM n (cool n c r) w (fun _ => 0) k = -9) && !(bz dd k)) (cool n c r)) 25 = r 25 := by
    rw [(hF_ag hn (fun _ _ => rfl) (fun _ _ _ => rfl) (fun _ _ => rfl)).2.1 25 (by omega)]
    exact (cool_ag hn c (f := r) (g := r) (fun _ _ => rfl)).2.1 25 (by omega)
  rw [← e25]
  exact e
theorem raM_25 {n : Nat} (hn : n ≤ 8) (c lo hi gh dd : Int32) : ∀ (q : Nat) (r : Nat → Int32), q ≤ 8 → ∃ k, k ≤ 8 * q ∧ raM n c lo hi gh dd q r 25 = r 25 + nI k := by
  intro q
  induction q with
  | zero => intro r _; exact ⟨0, by omega, by show r 25 = r 25 + nI 0; rw [nI_0]; simp⟩
  | succ q ih =>
    intro r hq
    obtain ⟨k1, h1, e1⟩ := ih (prR n c lo hi gh dd (r 13) (tkM q r)) (by omega)
    obtain ⟨k2, h2, e2⟩ := prR_25 hn c lo hi gh dd (r 13) (tkM q r)
    refine ⟨k2 + k1, by omega, ?_⟩
    show raM n c lo hi gh dd q (prR n c lo hi gh dd (r 13) (tkM q r)) 25 = _
    rw [e1, e2, tkM_at (by omega), if_neg (by omega), if_neg (by omega), if_neg (by omega), Int32.add_assoc, nI_add]
theorem add_sub_c (a b : Int32) : a + b - a = b := by rw [Int32.add_comm, Int32.add_sub_cancel]
/-- how many are right of all lines -/
theorem ra_cnt {n : Nat} (hn : n ≤ 8) (c lo hi gh dd : Int32) {q : Nat} (hq : q ≤ 8) (r : Nat → Int32) : ∃ k, k ≤ 64 ∧ raM n c lo hi gh dd q r 25 - r 25 = nI k := by
  obtain ⟨k, hk, e⟩ := raM_25 hn c lo hi gh dd q r hq
  exact ⟨k, by omega, by rw [e, add_sub_c]⟩
-- fit
def mtb (fg : Nat → Int32) (i : Nat) (v : Int32) : Bool := decide ((if i = 4 then 0 else fg (i + 1)) ≤ v) && decide (v ≤ (if i = 0 then 9 else fg (i - 1)))
theorem mtb_iff {fg : Nat → Int32} {i : Nat} {v : Int32} : mtb fg i v = true ↔ mt fg i v := by
  unfold mtb mt
  rw [Bool.and_eq_true, decide_eq_true_eq, decide_eq_true_eq]
def fR (n : Nat) (c lo hi gh : Int32) (q : Nat) (r : Nat → Int32) (i v : Nat) : Int32 := raM n c lo hi gh 0 q (upd r (8 + i) (nI v)) 25 - r 25
def fS (n : Nat) (c lo hi gh : Int32) (q : Nat) (r fg : Nat → Int32) (i : Nat) : Nat → Option (Nat × Int32)
  | 0 => none
  | v + 1 => if mtb fg i (nI v) then
      (match fS n c lo hi gh q r fg i v with
       | none => some (v, fR n c lo hi gh q r i v)
       | some s => if fR n c lo hi gh q r i v ≤ s.2 then some s else some (v, fR n c lo hi gh q r i v))
    else fS n c lo hi gh q r fg i v
theorem fS_small {n : Nat} {c lo hi gh : Int32} {q : Nat} {r fg : Nat → Int32} {i : Nat} : ∀ v s, fS n c lo hi gh q r fg i v = some s → s.1 < v := by
  intro v
  induction v with
  | zero => intro s h; cases h
  | succ v ih =>
    intro s h
    unfold fS at h
    by_cases hm : mtb fg i (nI v) = true
    · rw [if_pos hm] at h
      cases hf : fS n c lo hi gh q r fg i v with
      | none => rw [hf] at h; cases h; exact Nat.lt_succ_self v
      | some t =>
        rw [hf] at h
        dsimp only at h
        by_cases hr : fR n c lo hi gh q r i v ≤ t.2
        · rw [if_pos hr] at h; cases h; exact Nat.lt_succ_of_lt (ih _ hf)
        · rw [if_neg hr] at h; cases h; exact Nat.lt_succ_self v
    · rw [if_neg hm] at h; exact Nat.lt_succ_of_lt (ih _ h)
theorem fS_some {n : Nat} {c lo hi gh : Int32} {q : Nat} {r fg : Nat → Int32} {i t : Nat} (ht : mtb fg i (nI t) = true) : ∀ v, t < v → ∃ s, fS n c lo hi gh q r fg i v = some s := by
  intro v
  induction v with
  | zero => intro h; exact absurd h (Nat.not_lt_zero t)
  | succ v ih =>
    intro h
    unfold fS
    by_cases hm : mtb fg i (nI v) = true
    · rw [if_pos hm]
      cases fS n c lo hi gh q r fg i v with
      | none => exact ⟨_, rfl⟩
      | some s =>
        dsimp only
        by_cases hr : fR n c lo hi gh q r i v ≤ s.2
        · rw [if_pos hr]; exact ⟨_, rfl⟩
        · rw [if_neg hr]; exact ⟨_, rfl⟩
    · rw [if_neg hm]
      have : ¬ t = v := fun e => hm (e ▸ ht)
      exact ih (by omega)
theorem mt_cpy {fg tf : Nat → Int32} {i : Nat} (hi : i < 5) {v : Int32} (h : mt fg i v) : mt (va_cpy fg tf 0 0 5) i v := by
  unfold mt at *
  by_cases h4 : i = 4
  · rw [if_pos h4] at *
    by_cases h0 : i = 0
    · rw [if_pos h0] at *; exact h
    · rw [if_neg h0] at *; rw [va_cpy0 (by omega)]; exact h
  · rw [if_neg h4] at *
    rw [va_cpy0 (by omega)]
    by_cases h0 : i = 0
    · rw [if_pos h0] at *; exact h
    · rw [if_neg h0] at *; rw [va_cpy0 (by omega)]; exact h
theorem sp_fit7 {n q i : Nat} (hn : n ≤ 8) (hi5 : i < 5) {c lo hi gh qd la be ri a b d g pr tq tl tb' tr ta tp td tg tn : Int32} {p hs fg qu th tf tu r : Nat → Int32} (hC : CR n q qd la be ri a b d g pr hs fg qu r) {K : Int32 → (Nat → Int32) → Int32 → Int32 → Int32 → Int32 → Int32 → Int32 → Int32 → Int32 → Int32 → (Nat → Int32) → (Nat → Int32) → (Nat → Int32) → Prop}
    (hK : ∀ s p' a1 a2 a3 a4 a5 a6 a7 a8 a9 f1 f2 f3, fS n c lo hi gh q r fg i 10 = some s → K (nI s.1) p' a1 a2 a3 a4 a5 a6 a7 a8 a9 f1 f2 f3) : P_X7_fit (nI i) (nI n) c lo hi gh p qd la be ri a b d g pr hs fg qu tq tl tb' tr ta tp td tg tn th tf tu K := by
  unfold P_X7_fit
  refine sp_figOn hi5 (if10' ⟨vp_in_nI hi5 (by omega), ?_⟩)
  rw [nI_clamp (by omega : i < 2 ^ 31)]
  obtain ⟨t, ht, et⟩ := hC.2.2.2.2.2.2.2.2.1 i hi5
  have hsome : ∃ s, fS n c lo hi gh q r fg i 10 = some s := by
    refine fS_some (t := t) ?_ 10 (by omega)
    rw [mtb_iff, ← et]
    have hF2 := hC.2.2.2.2.2.2.2.2.2
    unfold mt
    refine ⟨?_, ?_⟩
    · by_cases h4 : i = 4
      · rw [if_pos h4, et]; exact nI_pos' (by omega)
      · rw [if_neg h4]; exact hF2 i (by omega)
    · by_cases h0 : i = 0
      · rw [if_pos h0, et, show (9 : Int32) = nI 9 from rfl]; exact nI_le ht (by omega)
      · rw [if_neg h0]
        have := hF2 (i - 1) (by omega)
        rw [Nat.sub_add_cancel (by omega)] at this
        exact this
  have key : ∀ m v (x2 x3 : Int32) p a1 a2 a3 a4 a5 a6 a7 a8 a9 f1 f2 f3, v + m = 10 → ((fS n c lo hi gh q r fg i v = none ∧ x3 = -1) ∨ (∃ s, fS n c lo hi gh q r fg i v = some s ∧ x2 = nI s.1 ∧ x3 = s.2)) → P_X7_fit_L25 (nI n) c lo hi gh qd la be ri a b d g pr hs fg qu (nI i) (fun x p a1 a2 a3 a4 a5 a6 a7 a8 a9 f1 f2 f3 => K x p a1 a2 a3 a4 a5 a6 a7 a8 a9 f1 f2 f3) (m + 1) x2 x3 (nI v) p a1 a2 a3 a4 a5 a6 a7 a8 a9 f1 f2 f3 := by
    intro m
    induction m with
    | zero =>
      intro v x2 x3 p a1 a2 a3 a4 a5 a6 a7 a8 a9 f1 f2 f3 hv hs
      unfold P_X7_fit_L25
      have ev : v = 10 := by omega
      subst ev
      refine br_t (by decide) ?_
      rcases hs with ⟨h, -⟩ | ⟨s, h, e2, -⟩
      · obtain ⟨s, h2⟩ := hsome
        rw [h] at h2; cases h2
      · rw [e2]; exact hK s _ _ _ _ _ _ _ _ _ _ _ _ _ h
    | succ m ih =>
      intro v x2 x3 p a1 a2 a3 a4 a5 a6 a7 a8 a9 f1 f2 f3 hv hst
      unfold P_X7_fit_L25
      refine br_f (by rw [show (9 : Int32) = nI 9 from rfl]; exact nI_nlt (by omega) (by omega)) ?_
      rw [nI_1]
      refine sp_mayTell hi5 (fun hm => if10 ?_) (fun hm => if00 ?_)
      · unfold P_X5_copyFrom
        refine ⟨vp_in_nI hi5 (by omega), ?_⟩
        rw [nI_clamp (by omega : i < 2 ^ 31)]
        have hC2 := (CR.cpy (hs' := f1) (fg' := f2) (qu' := f3) hn hC).fig hi5 (mt_cpy hi5 hm)
        refine sp_printQueue hn hC2 ?_
        intro p' la' be' a' b' d' g' pr' hs' hP'
        have eR : a' - a = fR n c lo hi gh q r i v := by
          unfold fR
          rw [← hP'.2.2.2.2.1, hC.1.2.2.2.2.1]
        have er25 : (upd r (8 + i) (nI v)) 25 = r 25 := by rw [upd_at, if_neg (by omega)]
        obtain ⟨kk, hkk, ek⟩ := ra_cnt hn c lo hi gh 0 hC.2.2.1 (upd r (8 + i) (nI v))
        rw [er25] at ek
        have eRk : fR n c lo hi gh q r i v = nI kk := ek
        have hmb := mtb_iff.mpr hm
        rw [eR]
        refine ⟨fun hle => ?_, fun hgt => ?_⟩
        · refine ih (v + 1) x2 x3 _ _ _ _ _ _ _ _ _ _ _ _ _ (by omega) (Or.inr ?_)
          rcases hst with ⟨h, e3⟩ | ⟨s, h, e2, e3⟩
          · rw [e3, eRk] at hle
            exact absurd hle (Int32.not_le.mpr (Int32.lt_of_lt_of_le (by decide) (nI_pos' (by omega))))
          · refine ⟨s, ?_, e2, e3⟩
            unfold fS
            rw [if_pos hmb, h]
            dsimp only
            rw [if_pos (by rw [← e3]; exact hle)]
        · refine ih (v + 1) (nI v) _ _ _ _ _ _ _ _ _ _ _ _ _ _ (by omega) (Or.inr ⟨(v, fR n c lo hi gh q r i v), ?_, rfl, rfl⟩)
          unfold fS
          rw [if_pos hmb]
          rcases hst with ⟨h, e3⟩ | ⟨s, h, e2, e3⟩
          · rw [h]
          · rw [h]
            dsimp only
            rw [if_neg (by rw [← e3]; exact hgt)]
      · have hmb : ¬ mtb fg i (nI v) = true := fun z => hm (mtb_iff.mp z)
        refine ih (v + 1) x2 x3 _ _ _ _ _ _ _ _ _ _ _ _ _ (by omega) ?_
        have e : fS n c lo hi gh q r fg i (v + 1) = fS n c lo hi gh q r fg i v := by
          show (if mtb fg i (nI v) then _ else _) = _
          rw [if_neg hmb]
        rw [e]
        exact hst
  have h := key 10 0 (fg i) (-1) p tq tl tb' tr ta tp td tg tn th tf tu (by omega) (Or.inl ⟨rfl, rfl⟩)
  rw [nI_0] at h
  exact ⟨11, h⟩
theorem sp_fit8 {n q i : Nat} (hn : n ≤ 8) (hi5 : i < 5) {c lo hi gh qd la be ri a b d g pr : Int32} {p hs fg qu r t0 : Nat → Int32} (hC : CR n q qd la be ri a b d g pr hs fg qu r) (hz : Z30 r) (hzt : Z30 t0) {s0 : Nat × Int32} (hs0 : fS n c lo hi gh q r fg i 10 = some s0) {K : Int32 → (Nat → Int32) → (Nat → Int32) → Prop}
    (hK : ∀ t' p', Z30 t' → K (nI s0.1) t' p') : P_X8_fit (nI i) (nI n) c lo hi gh 0 r t0 p K := by
  unfold P_X8_fit
  refine sp_inOn (m := 4) (by omega) rfl hi5 (if10' ?_)
  have key : ∀ m v (x2 x3 : Int32) t p, v + m = 10 → Z30 t → ((fS n c lo hi gh q r fg i v = none ∧ x2 = -9) ∨ (∃ s, fS n c lo hi gh q r fg i v = some s ∧ x2 = nI s.1 ∧ x3 = s.2)) → P_X8_fit_L23 (nI n) c lo hi gh 0 r (nI i) (fun x t p => K x t p) (m + 1) x2 x3 (nI v) t p := by
    intro m
    induction m with
    | zero =>
      intro v x2 x3 t p hv hzt hs
      unfold P_X8_fit_L23
      have ev : v = 10 := by omega
      subst ev
      refine br_t (by decide) ?_
      rcases hs with ⟨h, -⟩ | ⟨s, h, e2, -⟩
      · rw [h] at hs0; cases hs0
      · rw [hs0] at h; cases h; rw [e2]; exact hK _ _ hzt
    | succ m ih =>
      intro v x2 x3 t p hv hzt hst
      unfold P_X8_fit_L23
      refine br_f (by rw [show (10 : Int32) = nI 10 from rfl]; exact nI_ge (by omega) (by omega)) ?_
      rw [nI_1]
      refine sp_maySet hi5 (fun hm => if10 (sp_copy ?_)) (fun hm => if00 ?_)
      · rw [cp_eq hz hzt, show (8 : Int32) = nI 8 from rfl, nI_add, nI_clamp (by omega : 8 + i < 2 ^ 31)]
        refine ⟨vp_in_nI (by omega) (by omega), ?_⟩
        have hm' := (mt_row hC hi5 (nI v)).mp hm
        have hmb := mtb_iff.mpr hm'
        refine sp_rightOfAll hn hC.2.2.1 (by rw [upd_at, if_neg (by omega)]; exact hC.2.2.2.1) ?_
        intro p'
        have er25 : (upd r (8 + i) (nI v)) 25 = r 25 := by rw [upd_at, if_neg (by omega)]
        rw [er25]
        have hz2 := Z30.raM (c := c) (lo := lo) (hi := hi) (gh := gh) (dd := 0) hn q (upd r (8 + i) (nI v)) hC.2.2.1 (hz.upd (by omega) _)
        refine ⟨fun h9 => ?_, fun h9 => ⟨fun hle => ?_, fun hgt => ?_⟩⟩
        · refine ih (v + 1) (nI v) _ _ _ (by omega) hz2 (Or.inr ⟨(v, fR n c lo hi gh q r i v), ?_, rfl, rfl⟩)
          unfold fS
          rw [if_pos hmb]
          rcases hst with ⟨h, e3⟩ | ⟨s, h, e2, e3⟩
          · rw [h]
          · have := fS_small v s h
            rw [e2] at h9
            have h3 := congrArg Int32.toInt h9
            rw [nI_toInt (by omega)] at h3
            have h4 : (-9 : Int32).toInt = -9 := by decide
            omega
        · refine ih (v + 1) x2 x3 _ _ (by omega) hz2 (Or.inr ?_)
          rcases hst with ⟨h, e3⟩ | ⟨s, h, e2, e3⟩
          · exact absurd e3 h9
          · refine ⟨s, ?_, e2, e3⟩
            unfold fS
            rw [if_pos hmb, h]
            dsimp only
            rw [if_pos (by rw [← e3]; exact hle)]
        · refine ih (v + 1) (nI v) _ _ _ (by omega) hz2 (Or.inr ⟨(v, fR n c lo hi gh q r i v), ?_, rfl, rfl⟩)
          unfold fS
          rw [if_pos hmb]
          rcases hst with ⟨h, e3⟩ | ⟨s, h, e2, e3⟩
          · rw [h]
          · rw [h]
            dsimp only
            rw [if_neg (by rw [← e3]; exact hgt)]
      · have hmb : ¬ mtb fg i (nI v) = true := fun z => hm ((mt_row hC hi5 (nI v)).mpr (mtb_iff.mp z))
        refine ih (v + 1) x2 x3 _ _ (by omega) hzt ?_
        have e : fS n c lo hi gh q r fg i (v + 1) = fS n c lo hi gh q r fg i v := by
          show (if mtb fg i (nI v) then _ else _) = _
          rw [if_neg hmb]
        rw [e]
        exact hst
  have h := key 10 0 (-9) 0 t0 p (by omega) hzt (Or.inl ⟨rfl, rfl⟩)
  rw [nI_0] at h
  exact ⟨11, h⟩
theorem rt_fit {L n q : Nat} (hn : n ≤ 8) {xs : Nat → Int32} {x3 c lo hi gh qd la be ri a b d g pr tq tl tb' tr ta tp td tg tn : Int32} {p hs fg qu th tf tu r mt' mp : Nat → Int32} {N : (Nat → Int32) → Int32 → Int32 → Int32 → Int32 → Int32 → Int32 → Int32 → Int32 → Int32 → (Nat → Int32) → (Nat → Int32) → (Nat → Int32) → (Nat → Int32) → (Nat → Int32) → Prop}
    (hb1 : vp_in (x3 + 1) L) (hC : CR n q qd la be ri a b d g pr hs fg qu r) (hz : Z30 r) (hzt : Z30 mt')
    (hN : ∀ p' a1 a2 a3 a4 a5 a6 a7 a8 a9 f1 f2 f3 t' mp', Z30 t' → N p' a1 a2 a3 a4 a5 a6 a7 a8 a9 f1 f2 f3 t' mp') :
    P_T487 L xs x3 (nI n) c lo hi gh p qd la be ri a b d g pr hs fg qu tq tl tb' tr ta tp td tg tn th tf tu (nI n) c lo hi gh 0 r mt' mp N := by
  unfold P_T487
  refine ⟨hb1, ?_⟩
  generalize xs (Int32.toNatClampNeg (x3 + 1)) = z1
  have hNR := hN p tq tl tb' tr ta tp td tg tn th tf tu mt' mp hzt
  rcases on_off z1 (n := 5) (by omega) with h | ⟨i, hi5, rfl⟩
  · unfold P_X7_fit
    refine sp_figOff h (if00' ?_)
    unfold P_X8_fit
    exact sp_inOff (m := 4) (by omega) rfl h (if00' (eqN hNR))
  · refine sp_fit7 hn hi5 hC ?_
    intro s p' a1 a2 a3 a4 a5 a6 a7 a8 a9 f1 f2 f3 hs
    exact sp_fit8 hn hi5 hC hz hzt hs (fun t' p'' hz' => eqN (hN _ _ _ _ _ _ _ _ _ _ _ _ _ _ _ hz'))
