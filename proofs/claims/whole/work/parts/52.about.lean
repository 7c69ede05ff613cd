/-! ===== pure rows: ticks, the least rest, about ===== -/
def tkS (q : Nat) (m : Nat → Nat) : Int32 := itr (fun k s => s + (60 : Int32) / nI (bw q m (q - k))) q 0
theorem sp_ticks7 {n pw q : Nat} (hn : n ≤ 8) (hp1 : 1 ≤ pw) (hp8 : pw ≤ 8) (hq : q ≤ 8) {la be : Int32} {ti sp p fg qu : Nat → Int32} (hqu : ∀ i, i < q → ∃ v, v < 256 ∧ qu i = nI v) {K : Int32 → (Nat → Int32) → (Nat → Int32) → (Nat → Int32) → Prop}
    (hK : ∀ p' t' s', K (tkS q (mA n pw fg qu la be)) p' t' s') : P_X7_ticks (nI n) (nI pw) p (nI q) la be fg qu ti sp K := by
  unfold P_X7_ticks
  refine sp_plan hn hp1 hp8 hq hqu (fun t' s' p' ht hs => ?_)
  refine cnt_itr (P := fun fu i s => P_X7_ticks_L19 (nI q) s' (fun x8 => K x8 p' t' s') fu s i) q (by omega) (fun k s => s + (60 : Int32) / nI (bw q (mA n pw fg qu la be) (q - k))) 0 ?_ ?_
  · intro fu
    unfold P_X7_ticks_L19
    exact br_t (nI_le (Nat.le_refl q) (by omega)) (hK _ _ _)
  · intro fu k s hk _ hp
    unfold P_X7_ticks_L19
    have hb := (bw_b (q := q) (mA_b (n := n) (pw := pw) (fg := fg) (qu := qu) (la := la) (be := be)) (q - k)).1
    have hb1 := (bw_b (q := q) (mA_b (n := n) (pw := pw) (fg := fg) (qu := qu) (la := la) (be := be)) (q - k - 1)).2 (by omega)
    rw [show q - k - 1 + 1 = q - k by omega] at hb1
    refine br_f (nI_ge hk (by omega)) ⟨vp_in_nI (by omega) (by omega), ?_⟩
    rw [nI_1, nI_clamp (by omega : k < 2 ^ 31), hs k hk]
    have e : (if (1 : Int32) < nI (bw q (mA n pw fg qu la be) (q - k)) then nI (bw q (mA n pw fg qu la be) (q - k)) else (1 : Int32)) = nI (bw q (mA n pw fg qu la be) (q - k)) := by
      by_cases h : (1 : Int32) < nI (bw q (mA n pw fg qu la be) (q - k))
      · rw [if_pos h]
      · rw [if_neg h]
        rw [show (1 : Int32) = nI 1 from rfl, nI_ltI (by omega) (by omega)] at h
        rw [show bw q (mA n pw fg qu la be) (q - k) = 1 by omega]
        rfl
    rw [e]
    exact ⟨nI_ne0 (by omega) (by omega), hp⟩
theorem sp_ticks8 {n pw q : Nat} (hn : n ≤ 8) (hp1 : 1 ≤ pw) (hp8 : pw ≤ 8) {qd la be ri a b d g pr : Int32} {hs fg qu r p mo sp : Nat → Int32} (hC : CR n q qd la be ri a b d g pr hs fg qu r) {K : Int32 → (Nat → Int32) → (Nat → Int32) → (Nat → Int32) → Prop}
    (hK : ∀ p' m' s', K (tkS q (mA n pw fg qu la be)) p' m' s') : P_X8_ticks (nI n) (nI pw) r p mo sp K := by
  unfold P_X8_ticks
  have hq : q ≤ 8 := hC.2.2.1
  refine sp_laySpeeds hn hp1 hp8 hC (fun p' m' s' hs' => ?_)
  refine cnt_itr (P := fun fu i s => P_X8_ticks_L8 r s' (fun x8 => K x8 p' m' s') fu s i) q (by omega) (fun k s => s + (60 : Int32) / nI (bw q (mA n pw fg qu la be) (q - k))) 0 ?_ ?_
  · intro fu
    unfold P_X8_ticks_L8
    rw [tn21, hC.2.2.2.1]
    exact br_t (nI_le (Nat.le_refl q) (by omega)) (hK _ _ _)
  · intro fu k s hk _ hp
    unfold P_X8_ticks_L8
    have hb := (bw_b (q := q) (mA_b (n := n) (pw := pw) (fg := fg) (qu := qu) (la := la) (be := be)) (q - k)).1
    have hb1 := (bw_b (q := q) (mA_b (n := n) (pw := pw) (fg := fg) (qu := qu) (la := la) (be := be)) (q - k - 1)).2 (by omega)
    rw [show q - k - 1 + 1 = q - k by omega] at hb1
    rw [tn21, hC.2.2.2.1]
    refine br_f (nI_ge hk (by omega)) ⟨vp_in_nI (by omega) (by omega), ?_⟩
    rw [nI_1, nI_clamp (by omega : k < 2 ^ 31), hs' k hk]
    exact ⟨nI_ne0 (by omega) (by omega), hp⟩
/-- the first of so many that is so -/
def fst (cd : Nat → Bool) : Nat → Nat → Int32
  | 0, _ => -9
  | m + 1, k => if cd k then nI k else fst cd m (k + 1)
def rsT (n : Nat) (c lo hi gh : Int32) (q : Nat) (r : Nat → Int32) (k : Nat) : Nat → Int32 := prR n c lo hi gh 0 (r 13) (tkM (q - 1) (rst n c k r))
def rsC (n : Nat) (c lo hi gh : Int32) (q : Nat) (r : Nat → Int32) (k : Nat) : Bool := decide (rsT n c lo hi gh q r k 27 = r 27) && decide (rsT n c lo hi gh q r k 28 = r 28)
def rsV (n : Nat) (c lo hi gh : Int32) (q : Nat) (r : Nat → Int32) : Int32 := if q = 0 then -9 else fst (rsC n c lo hi gh q r) 61 0
theorem rst_hi {n : Nat} (hn : n ≤ 8) (c : Int32) (r : Nat → Int32) (k : Nat) : ∀ j, 8 ≤ j → rst n c k r j = r j := by
  intro j hj
  unfold rst
  refine itr_inv (fun _ (s : Nat → Int32) => s j = r j) rfl k (fun i s _ hs => ?_) k (Nat.le_refl k)
  rw [(cool_ag hn c (f := s) (g := s) (fun _ _ => rfl)).2.1 j hj]
  exact hs
theorem sp_leastRest {n q : Nat} (hn : n ≤ 8) {c lo hi gh qd la be ri a b d g pr tq tl tb' tr ta tp td tg tn rq rl rb rr ra rp rd rg rn : Int32} {p hs fg qu th tf tu rh rf ru r : Nat → Int32} (hC : CR n q qd la be ri a b d g pr hs fg qu r) {K : Int32 → (Nat → Int32) → Int32 → Int32 → Int32 → Int32 → Int32 → Int32 → Int32 → Int32 → Int32 → (Nat → Int32) → (Nat → Int32) → (Nat → Int32) → Int32 → Int32 → Int32 → Int32 → Int32 → Int32 → Int32 → Int32 → Int32 → (Nat → Int32) → (Nat → Int32) → (Nat → Int32) → Prop}
    (hK : ∀ p' a1 a2 a3 a4 a5 a6 a7 a8 a9 a10 a11 a12 b1 b2 b3 b4 b5 b6 b7 b8 b9 b10 b11 b12, K (rsV n c lo hi gh q r) p' a1 a2 a3 a4 a5 a6 a7 a8 a9 a10 a11 a12 b1 b2 b3 b4 b5 b6 b7 b8 b9 b10 b11 b12) :
    P_X7_leastRest (nI n) c lo hi gh p qd la be ri a b d g pr hs fg qu tq tl tb' tr ta tp td tg tn th tf tu rq rl rb rr ra rp rd rg rn rh rf ru K := by
  unfold P_X7_leastRest
  have hq8 := hC.2.2.1
  by_cases hq0 : q = 0
  · unfold rsV at hK
    rw [if_pos hq0] at hK
    refine br_t' (by rw [hC.2.1, hq0]; rfl) (hK _ _ _ _ _ _ _ _ _ _ _ _ _ _ _ _ _ _ _ _ _ _ _ _ _ )
  · unfold rsV at hK
    rw [if_neg hq0] at hK
    refine br_f' (by rw [hC.2.1]; exact nI_ne0 (by omega) (by omega)) ?_
    unfold P_X5_copyFrom
    obtain ⟨v, hv, ev⟩ := (hC.2.2.2.2.1 0 (by omega)).2
    have e13 : r 13 = nI v := by rw [← ev]; exact (hC.2.2.2.2.1 0 (by omega)).1.symm
    have e27 : r 27 = d := hC.1.2.2.2.2.2.2.1
    have e28 : r 28 = g := hC.1.2.2.2.2.2.2.2.1
    have key : ∀ (RF RQ : Nat → Int32) (C98 : Int32 → (Nat → Int32) → Int32 → Int32 → Int32 → Int32 → Int32 → Int32 → Int32 → Int32 → Int32 → (Nat → Int32) → (Nat → Int32) → (Nat → Int32) → (Nat → Int32) → Prop) (C117 : (Nat → Int32) → Int32 → Int32 → Int32 → Int32 → Int32 → Int32 → Int32 → Int32 → Int32 → (Nat → Int32) → (Nat → Int32) → (Nat → Int32) → (Nat → Int32) → Prop), ∀ m k, k + m = 61 →
        (∀ x, x = fst (rsC n c lo hi gh q r) m k → (∀ p' a1 a2 a3 a4 a5 a6 a7 a8 a9 a10 a11 a12 h', C98 x p' a1 a2 a3 a4 a5 a6 a7 a8 a9 a10 a11 a12 h') ∧ (x = -9 → ∀ p' a1 a2 a3 a4 a5 a6 a7 a8 a9 a10 a11 a12 h', C117 p' a1 a2 a3 a4 a5 a6 a7 a8 a9 a10 a11 a12 h')) →
        ∀ (p : Nat → Int32) (tq tl tb' tr ta tp td tg tn : Int32) (th tf tu RH : Nat → Int32), CR n q qd la be ri a b d g pr RH RF RQ (rst n c k r) →
        P_X7_leastRest_L26 (nI n) c lo hi gh d g qu qd la be ri a b d g pr RF RQ C98 C117 (m + 1) (nI k) p tq tl tb' tr ta tp td tg tn th tf tu RH := by
      intro RF RQ C98 C117 m
      induction m with
      | zero =>
        intro k hk hx p tq tl tb' tr ta tp td tg tn th tf tu RH hCk
        unfold P_X7_leastRest_L26
        exact br_t (by rw [show (60 : Int32) = nI 60 from rfl]; exact nI_lt (by omega) (by omega)) ((hx _ rfl).2 rfl _ _ _ _ _ _ _ _ _ _ _ _ _ _ )
      | succ m ih =>
        intro k hk hx p tq tl tb' tr ta tp td tg tn th tf tu RH hCk
        unfold P_X7_leastRest_L26
        refine br_f (by rw [show (60 : Int32) = nI 60 from rfl]; exact nI_nlt (by omega) (by omega)) ?_
        unfold P_X5_copyFrom
        rw [tn0, ev]
        have hCt := hCk.cpy hn (hs' := th) (fg' := tf) (qu' := tu)
        have hPt : PR (va_cpy RH th 0 0 8) (va_cpy RF tf 0 0 5) la be a b d g pr (tkM (q - 1) (rst n c k r)) := hCt.1.kept (fun j hj hj2 => by rw [tkM_at (by omega), if_neg (by omega), if_neg (by omega), if_neg (by omega)])
        refine cr_print hn hv hPt hCt.2.2.2.2.2.2.2.2 hCt.2.2.2.2.2.2.2.1 (fun p2 a2 b2 d2 g2 h2 hP2 hz2 => ?_)
        have ed : d2 = rsT n c lo hi gh q r k 27 := by
          unfold rsT
          rw [e13]
          exact hP2.2.2.2.2.2.2.1.symm
        have eg : g2 = rsT n c lo hi gh q r k 28 := by
          unfold rsT
          rw [e13]
          exact hP2.2.2.2.2.2.2.2.1.symm
        have hno : rsC n c lo hi gh q r k = false → P_X1_coolDown (nI n) c RH (fun h' => P_X7_leastRest_L26 (nI n) c lo hi gh d g qu qd la be ri a b d g pr RF RQ C98 C117 (m + 1) (nI k + 1) p2 qd (nI v) la ri a2 b2 d2 g2 (pr + 1) h2 (va_cpy RF tf 0 0 5) (va_cpy RQ tu 0 0 8) h') := by
          intro hf
          refine sp_coolDown hn ?_
          rw [nI_1]
          refine ih (k + 1) (by omega) (fun x hx2 => hx x ?_) _ _ _ _ _ _ _ _ _ _ _ _ _ _ (hCk.cool hn c)
          rw [hx2]
          show _ = (if rsC n c lo hi gh q r k then nI k else fst (rsC n c lo hi gh q r) m (k + 1))
          rw [hf, if_neg (by decide)]
        refine ⟨fun z => hno ?_, fun z => ⟨fun y => hno ?_, fun y => ?_⟩⟩
        · unfold rsC
          rw [e27, ← ed, decide_eq_false z, Bool.false_and]
        · unfold rsC
          rw [e28, ← eg, decide_eq_false y, Bool.and_false]
        · refine (hx (nI k) ?_).1 _ _ _ _ _ _ _ _ _ _ _ _ _ _ 
          show _ = (if rsC n c lo hi gh q r k then nI k else fst (rsC n c lo hi gh q r) m (k + 1))
          have : rsC n c lo hi gh q r k = true := by
            unfold rsC
            rw [e27, e28, ← ed, ← eg, decide_eq_true z, decide_eq_true y]
            rfl
          rw [this, if_pos rfl]
    refine ⟨62, key _ _ _ _ 61 0 (by omega) (fun x hx => ⟨fun p' a1 a2 a3 a4 a5 a6 a7 a8 a9 a10 a11 a12 h' => ?_, fun hx9 p' a1 a2 a3 a4 a5 a6 a7 a8 a9 a10 a11 a12 h' => ?_⟩) p tq tl tb' tr ta tp td tg tn th tf tu _ (hC.cpy hn)⟩
    · rw [hx]; exact hK _ _ _ _ _ _ _ _ _ _ _ _ _ _ _ _ _ _ _ _ _ _ _ _ _ 
    · rw [hx] at hx9
      rw [← hx9]; exact hK _ _ _ _ _ _ _ _ _ _ _ _ _ _ _ _ _ _ _ _ _ _ _ _ _ 
theorem sp_restNow {n q : Nat} (hn : n ≤ 8) {c lo hi gh : Int32} {r t0 p : Nat → Int32} (hq8 : q ≤ 8) (h21 : r 21 = nI q) (hz : Z30 r) (hzt : Z30 t0) {K : Int32 → (Nat → Int32) → (Nat → Int32) → Prop}
    (hK : ∀ t' p', Z30 t' → K (rsV n c lo hi gh q r) t' p') : P_X8_restNow (nI n) c lo hi gh 0 r t0 p K := by
  unfold P_X8_restNow
  by_cases hq0 : q = 0
  · unfold rsV at hK
    rw [if_pos hq0] at hK
    refine ⟨1, ?_⟩
    unfold P_X8_restNow_L2
    refine br_f (by decide) (br_t ?_ (hK _ _ hzt))
    rw [tn21, h21, hq0]; decide
  · unfold rsV at hK
    rw [if_neg hq0] at hK
    have key : ∀ (C99 : Int32 → (Nat → Int32) → (Nat → Int32) → Prop) (C107 : (Nat → Int32) → (Nat → Int32) → Prop), ∀ m k, k + m = 61 →
        (∀ x, x = fst (rsC n c lo hi gh q r) m k → (∀ t' p', Z30 t' → C99 x t' p') ∧ (x = -9 → ∀ t' p', Z30 t' → C107 t' p')) →
        ∀ (t p : Nat → Int32), Z30 t → P_X8_restNow_L2 (nI n) c lo hi gh 0 r C99 C107 (m + 1) (nI k) t p := by
      intro C99 C107 m
      induction m with
      | zero =>
        intro k hk hx t p ht
        unfold P_X8_restNow_L2
        exact br_t (by rw [show (60 : Int32) = nI 60 from rfl]; exact nI_lt (by omega) (by omega)) ((hx _ rfl).2 rfl _ _ ht)
      | succ m ih =>
        intro k hk hx t p ht
        unfold P_X8_restNow_L2
        rw [tn21, tn27, tn28, h21]
        refine br_f (by rw [show (60 : Int32) = nI 60 from rfl]; exact nI_nlt (by omega) (by omega)) (br_f (nI_nle (by omega) (by omega)) (sp_copy ?_))
        rw [cp_eq hz ht]
        have hzk : Z30 (rst n c k r) := fun j hj => (rst_hi hn c r k j (by omega)).trans (hz j hj)
        have tail : P_X8_takeLine (rst n c k r) (fun r5 t6 => (P_X8_printOn r5 (nI n) c lo hi gh 0 p t6 (fun p7 t8 => ((¬ (t8 27) = (r 27) → P_X8_restNow_L2 (nI n) c lo hi gh 0 r C99 C107 (m + 1) (nI k + 1) t8 p7) ∧ ((t8 27) = (r 27) → ((¬ (t8 28) = (r 28) → P_X8_restNow_L2 (nI n) c lo hi gh 0 r C99 C107 (m + 1) (nI k + 1) t8 p7) ∧ ((t8 28) = (r 28) → C99 (nI k) t8 p7))))))) := by
          refine sp_takeLine (m := q - 1) (by omega) (by rw [rst_hi hn c r k 21 (by omega), h21, show q - 1 + 1 = q by omega]) (sp_printOn2 hn (fun p' => ?_))
          rw [rst_hi hn c r k 13 (by omega)]
          have hzT : Z30 (rsT n c lo hi gh q r k) := (hzk.tk (by omega)).pr hn
          have hno : rsC n c lo hi gh q r k = false → P_X8_restNow_L2 (nI n) c lo hi gh 0 r C99 C107 (m + 1) (nI k + 1) (rsT n c lo hi gh q r k) p' := by
            intro hf
            rw [nI_1]
            refine ih (k + 1) (by omega) (fun x hx2 => hx x ?_) _ _ hzT
            rw [hx2]
            show _ = (if rsC n c lo hi gh q r k then nI k else fst (rsC n c lo hi gh q r) m (k + 1))
            rw [hf, if_neg (by decide)]
          refine ⟨fun z => hno ?_, fun z => ⟨fun y => hno ?_, fun y => ?_⟩⟩
          · unfold rsC
            rw [decide_eq_false (show ¬ rsT n c lo hi gh q r k 27 = r 27 from z), Bool.false_and]
          · unfold rsC
            rw [decide_eq_false (show ¬ rsT n c lo hi gh q r k 28 = r 28 from y), Bool.and_false]
          · refine (hx (nI k) ?_).1 _ _ hzT
            show _ = (if rsC n c lo hi gh q r k then nI k else fst (rsC n c lo hi gh q r) m (k + 1))
            have : rsC n c lo hi gh q r k = true := by
              unfold rsC
              rw [decide_eq_true (show rsT n c lo hi gh q r k 27 = r 27 from z), decide_eq_true (show rsT n c lo hi gh q r k 28 = r 28 from y)]
              rfl
            rw [this, if_pos rfl]
        refine cnt_itr (P := fun fu i s => P_X8_restNow_L31 (nI n) c (nI k) (fun t4 => (P_X8_takeLine t4 (fun r5 t6 => (P_X8_printOn r5 (nI n) c lo hi gh 0 p t6 (fun p7 t8 => ((¬ (t8 27) = (r 27) → P_X8_restNow_L2 (nI n) c lo hi gh 0 r C99 C107 (m + 1) (nI k + 1) t8 p7) ∧ ((t8 27) = (r 27) → ((¬ (t8 28) = (r 28) → P_X8_restNow_L2 (nI n) c lo hi gh 0 r C99 C107 (m + 1) (nI k + 1) t8 p7) ∧ ((t8 28) = (r 28) → C99 (nI k) t8 p7))))))))) fu i s) k (by omega) (fun _ s => cool n c s) r ?_ ?_
        · intro fu
          unfold P_X8_restNow_L31
          exact br_t (nI_le (Nat.le_refl k) (by omega)) tail
        · intro fu j s hj _ hp
          unfold P_X8_restNow_L31
          refine br_f (nI_ge hj (by omega)) (sp_coolOn hn ?_)
          rw [nI_1 j]
          exact hp
    refine ⟨62, key _ _ 61 0 (by omega) (fun x hx => ⟨fun t' p' ht => ?_, fun hx9 t' p' ht => ?_⟩) t0 p hzt⟩
    · rw [hx]; exact hK _ _ ht
    · rw [hx] at hx9
      rw [← hx9]; exact hK _ _ ht
theorem rt_about {L n pw q : Nat} (hn : n ≤ 8) (hp1 : 1 ≤ pw) (hp8 : pw ≤ 8) {xs : Nat → Int32} {x3 tx c lo hi gh qd la be ri a b d g pr tq tl tb' tr ta tp td tg tn rq rl rb rr ra rp rd rg rn co sc : Int32} {p hs fg qu th tf tu rh rf ru r ti sp mt' mp mo ms' : Nat → Int32} {N : (Nat → Int32) → Int32 → Int32 → Int32 → Int32 → Int32 → Int32 → Int32 → Int32 → Int32 → (Nat → Int32) → (Nat → Int32) → (Nat → Int32) → Int32 → Int32 → Int32 → Int32 → Int32 → Int32 → Int32 → Int32 → Int32 → (Nat → Int32) → (Nat → Int32) → (Nat → Int32) → (Nat → Int32) → (Nat → Int32) → (Nat → Int32) → (Nat → Int32) → (Nat → Int32) → (Nat → Int32) → Prop}
    (hb : vp_in (x3 + 1) L) (hC : CR n q qd la be ri a b d g pr hs fg qu r) (hz : Z30 r) (hzt : Z30 mt')
    (hN : ∀ p' a1 a2 a3 a4 a5 a6 a7 a8 a9 a10 a11 a12 b1 b2 b3 b4 b5 b6 b7 b8 b9 b10 b11 b12 ti' sp' t' mp' mo' ms', Z30 t' → N p' a1 a2 a3 a4 a5 a6 a7 a8 a9 a10 a11 a12 b1 b2 b3 b4 b5 b6 b7 b8 b9 b10 b11 b12 ti' sp' t' mp' mo' ms') :
    P_T214 L xs x3 tx (nI n) c (nI pw) lo hi gh p qd la be ri a b d g pr hs fg qu tq tl tb' tr ta tp td tg tn th tf tu rq rl rb rr ra rp rd rg rn rh rf ru ti sp co sc tx (nI n) c (nI pw) lo hi gh co sc 0 r mt' mp mo ms' N := by
  unfold P_T214
  refine ⟨hb, ?_⟩
  generalize xs (Int32.toNatClampNeg (x3 + 1)) = z
  have hNR := fun mp' mo' ms' => hN p tq tl tb' tr ta tp td tg tn th tf tu rq rl rb rr ra rp rd rg rn rh rf ru ti sp mt' mp' mo' ms' hzt
  have e21 := hC.2.2.2.1
  have eqd := hC.2.1
  have hq8 := hC.2.2.1
  have e24 := hC.2.2.2.2.2.1
  obtain ⟨-, -, e22, e23, e25, e26, e27, e28, e29⟩ := hC.1
  unfold P_X7_about
  rcases on_off z (n := 20) (by omega) with h | ⟨j, hj, rfl⟩
  · have hT : z.toInt < 0 ∨ 20 ≤ z.toInt := by
      rcases h with h | h
      · have h0 := Int32.lt_iff_toInt_lt.mp h
        rw [show (0 : Int32).toInt = 0 by decide] at h0
        exact Or.inl h0
      · have := Int32.le_iff_toInt_le.mp h
        rw [nI_toInt (by omega)] at this
        exact Or.inr this
    have hne : ∀ k : Nat, k < 20 → ¬ z = nI k := by
      intro k hk e
      rw [e, nI_toInt (by omega)] at hT
      omega
    refine ⟨fun _ => ?_, fun y => absurd y (hne 0 (by omega)), fun y => absurd y (hne 1 (by omega)), fun y => absurd y (hne 2 (by omega)), fun y => absurd y (hne 3 (by omega)), fun y => absurd y (hne 4 (by omega)), fun y => absurd y (hne 5 (by omega)), fun y => absurd y (hne 6 (by omega)), fun y => absurd y (hne 7 (by omega)), fun y => absurd y (hne 8 (by omega)), fun y => absurd y (hne 9 (by omega)), fun y => absurd y (hne 10 (by omega)), fun y => absurd y (hne 11 (by omega)), fun y => absurd y (hne 12 (by omega)), fun y => absurd y (hne 13 (by omega)), fun y => absurd y (hne 14 (by omega)), fun y => absurd y (hne 15 (by omega)), fun y => absurd y (hne 16 (by omega)), fun y => absurd y (hne 17 (by omega)), fun y => absurd y (hne 18 (by omega)), fun y => absurd y (hne 19 (by omega))⟩
    unfold P_X8_about
    refine ⟨fun _ => sp_inN ?_ (if00 (eqN (hNR _ _ _))), fun y => absurd y (hne 0 (by omega)), fun y => absurd y (hne 1 (by omega)), fun y => absurd y (hne 2 (by omega)), fun y => absurd y (hne 3 (by omega)), fun y => absurd y (hne 4 (by omega)), fun y => absurd y (hne 5 (by omega)), fun y => absurd y (hne 6 (by omega)), fun y => absurd y (hne 7 (by omega)), fun y => absurd y (hne 8 (by omega)), fun y => absurd y (hne 9 (by omega)), fun y => absurd y (hne 10 (by omega)), fun y => absurd y (hne 11 (by omega)), fun y => absurd y (hne 12 (by omega)), fun y => absurd y (hne 13 (by omega)), fun y => absurd y (hne 14 (by omega)), fun y => absurd y (hne 15 (by omega)), fun y => absurd y (hne 16 (by omega)), fun y => absurd y (hne 17 (by omega)), fun y => absurd y (hne 18 (by omega)), fun y => absurd y (hne 19 (by omega))⟩
    rcases h with h | h
    · exact Or.inl (by rw [show (6 : Int64) = (6 : Int32).toInt64 by decide]; exact (wide_lt _ _).mpr (Int32.lt_trans h (by decide)))
    · exact Or.inr (by rw [show (14 : Int64) = (14 : Int32).toInt64 by decide]; exact (wide_lt _ _).mpr (Int32.lt_of_lt_of_le (by decide) h))
  · rcases (show j = 0 ∨ j = 1 ∨ j = 2 ∨ j = 3 ∨ j = 4 ∨ j = 5 ∨ j = 6 ∨ j = 7 ∨ j = 8 ∨ j = 9 ∨ j = 10 ∨ j = 11 ∨ j = 12 ∨ j = 13 ∨ j = 14 ∨ j = 15 ∨ j = 16 ∨ j = 17 ∨ j = 18 ∨ j = 19 by omega) with rfl | rfl | rfl | rfl | rfl | rfl | rfl | rfl | rfl | rfl | rfl | rfl | rfl | rfl | rfl | rfl | rfl | rfl | rfl | rfl
    · refine ⟨fun y => absurd y (by decide), fun _ => ?_, fun y => absurd y (by decide), fun y => absurd y (by decide), fun y => absurd y (by decide), fun y => absurd y (by decide), fun y => absurd y (by decide), fun y => absurd y (by decide), fun y => absurd y (by decide), fun y => absurd y (by decide), fun y => absurd y (by decide), fun y => absurd y (by decide), fun y => absurd y (by decide), fun y => absurd y (by decide), fun y => absurd y (by decide), fun y => absurd y (by decide), fun y => absurd y (by decide), fun y => absurd y (by decide), fun y => absurd y (by decide), fun y => absurd y (by decide), fun y => absurd y (by decide)⟩
      unfold P_X8_about
      refine ⟨fun y => absurd y (by decide), fun _ => ?_, fun y => absurd y (by decide), fun y => absurd y (by decide), fun y => absurd y (by decide), fun y => absurd y (by decide), fun y => absurd y (by decide), fun y => absurd y (by decide), fun y => absurd y (by decide), fun y => absurd y (by decide), fun y => absurd y (by decide), fun y => absurd y (by decide), fun y => absurd y (by decide), fun y => absurd y (by decide), fun y => absurd y (by decide), fun y => absurd y (by decide), fun y => absurd y (by decide), fun y => absurd y (by decide), fun y => absurd y (by decide), fun y => absurd y (by decide), fun y => absurd y (by decide)⟩
      exact eqN (hNR _ _ _)
    · refine ⟨fun y => absurd y (by decide), fun y => absurd y (by decide), fun _ => ?_, fun y => absurd y (by decide), fun y => absurd y (by decide), fun y => absurd y (by decide), fun y => absurd y (by decide), fun y => absurd y (by decide), fun y => absurd y (by decide), fun y => absurd y (by decide), fun y => absurd y (by decide), fun y => absurd y (by decide), fun y => absurd y (by decide), fun y => absurd y (by decide), fun y => absurd y (by decide), fun y => absurd y (by decide), fun y => absurd y (by decide), fun y => absurd y (by decide), fun y => absurd y (by decide), fun y => absurd y (by decide), fun y => absurd y (by decide)⟩
      unfold P_X8_about
      refine ⟨fun y => absurd y (by decide), fun y => absurd y (by decide), fun _ => ?_, fun y => absurd y (by decide), fun y => absurd y (by decide), fun y => absurd y (by decide), fun y => absurd y (by decide), fun y => absurd y (by decide), fun y => absurd y (by decide), fun y => absurd y (by decide), fun y => absurd y (by decide), fun y => absurd y (by decide), fun y => absurd y (by decide), fun y => absurd y (by decide), fun y => absurd y (by decide), fun y => absurd y (by decide), fun y => absurd y (by decide), fun y => absurd y (by decide), fun y => absurd y (by decide), fun y => absurd y (by decide), fun y => absurd y (by decide)⟩
      exact eqN (hNR _ _ _)
    · refine ⟨fun y => absurd y (by decide), fun y => absurd y (by decide), fun y => absurd y (by decide), fun _ => ?_, fun y => absurd y (by decide), fun y => absurd y (by decide), fun y => absurd y (by decide), fun y => absurd y (by decide), fun y => absurd y (by decide), fun y => absurd y (by decide), fun y => absurd y (by decide), fun y => absurd y (by decide), fun y => absurd y (by decide), fun y => absurd y (by decide), fun y => absurd y (by decide), fun y => absurd y (by decide), fun y => absurd y (by decide), fun y => absurd y (by decide), fun y => absurd y (by decide), fun y => absurd y (by decide), fun y => absurd y (by decide)⟩
      unfold P_X8_about
      refine ⟨fun y => absurd y (by decide), fun y => absurd y (by decide), fun y => absurd y (by decide), fun _ => ?_, fun y => absurd y (by decide), fun y => absurd y (by decide), fun y => absurd y (by decide), fun y => absurd y (by decide), fun y => absurd y (by decide), fun y => absurd y (by decide), fun y => absurd y (by decide), fun y => absurd y (by decide), fun y => absurd y (by decide), fun y => absurd y (by decide), fun y => absurd y (by decide), fun y => absurd y (by decide), fun y => absurd y (by decide), fun y => absurd y (by decide), fun y => absurd y (by decide), fun y => absurd y (by decide), fun y => absurd y (by decide)⟩
      exact eqN (hNR _ _ _)
    · refine ⟨fun y => absurd y (by decide), fun y => absurd y (by decide), fun y => absurd y (by decide), fun y => absurd y (by decide), fun _ => ?_, fun y => absurd y (by decide), fun y => absurd y (by decide), fun y => absurd y (by decide), fun y => absurd y (by decide), fun y => absurd y (by decide), fun y => absurd y (by decide), fun y => absurd y (by decide), fun y => absurd y (by decide), fun y => absurd y (by decide), fun y => absurd y (by decide), fun y => absurd y (by decide), fun y => absurd y (by decide), fun y => absurd y (by decide), fun y => absurd y (by decide), fun y => absurd y (by decide), fun y => absurd y (by decide)⟩
      unfold P_X8_about
      refine ⟨fun y => absurd y (by decide), fun y => absurd y (by decide), fun y => absurd y (by decide), fun y => absurd y (by decide), fun _ => ?_, fun y => absurd y (by decide), fun y => absurd y (by decide), fun y => absurd y (by decide), fun y => absurd y (by decide), fun y => absurd y (by decide), fun y => absurd y (by decide), fun y => absurd y (by decide), fun y => absurd y (by decide), fun y => absurd y (by decide), fun y => absurd y (by decide), fun y => absurd y (by decide), fun y => absurd y (by decide), fun y => absurd y (by decide), fun y => absurd y (by decide), fun y => absurd y (by decide), fun y => absurd y (by decide)⟩
      exact eqN (hNR _ _ _)
    · refine ⟨fun y => absurd y (by decide), fun y => absurd y (by decide), fun y => absurd y (by decide), fun y => absurd y (by decide), fun y => absurd y (by decide), fun _ => ?_, fun y => absurd y (by decide), fun y => absurd y (by decide), fun y => absurd y (by decide), fun y => absurd y (by decide), fun y => absurd y (by decide), fun y => absurd y (by decide), fun y => absurd y (by decide), fun y => absurd y (by decide), fun y => absurd y (by decide), fun y => absurd y (by decide), fun y => absurd y (by decide), fun y => absurd y (by decide), fun y => absurd y (by decide), fun y => absurd y (by decide), fun y => absurd y (by decide)⟩
      unfold P_X8_about
      refine ⟨fun y => absurd y (by decide), fun y => absurd y (by decide), fun y => absurd y (by decide), fun y => absurd y (by decide), fun y => absurd y (by decide), fun _ => ?_, fun y => absurd y (by decide), fun y => absurd y (by decide), fun y => absurd y (by decide), fun y => absurd y (by decide), fun y => absurd y (by decide), fun y => absurd y (by decide), fun y => absurd y (by decide), fun y => absurd y (by decide), fun y => absurd y (by decide), fun y => absurd y (by decide), fun y => absurd y (by decide), fun y => absurd y (by decide), fun y => absurd y (by decide), fun y => absurd y (by decide), fun y => absurd y (by decide)⟩
      exact eqN (hNR _ _ _)
    · refine ⟨fun y => absurd y (by decide), fun y => absurd y (by decide), fun y => absurd y (by decide), fun y => absurd y (by decide), fun y => absurd y (by decide), fun y => absurd y (by decide), fun _ => ?_, fun y => absurd y (by decide), fun y => absurd y (by decide), fun y => absurd y (by decide), fun y => absurd y (by decide), fun y => absurd y (by decide), fun y => absurd y (by decide), fun y => absurd y (by decide), fun y => absurd y (by decide), fun y => absurd y (by decide), fun y => absurd y (by decide), fun y => absurd y (by decide), fun y => absurd y (by decide), fun y => absurd y (by decide), fun y => absurd y (by decide)⟩
      unfold P_X8_about
      refine ⟨fun y => absurd y (by decide), fun y => absurd y (by decide), fun y => absurd y (by decide), fun y => absurd y (by decide), fun y => absurd y (by decide), fun y => absurd y (by decide), fun _ => ?_, fun y => absurd y (by decide), fun y => absurd y (by decide), fun y => absurd y (by decide), fun y => absurd y (by decide), fun y => absurd y (by decide), fun y => absurd y (by decide), fun y => absurd y (by decide), fun y => absurd y (by decide), fun y => absurd y (by decide), fun y => absurd y (by decide), fun y => absurd y (by decide), fun y => absurd y (by decide), fun y => absurd y (by decide), fun y => absurd y (by decide)⟩
      exact eqN (hNR _ _ _)
    · refine ⟨fun y => absurd y (by decide), fun y => absurd y (by decide), fun y => absurd y (by decide), fun y => absurd y (by decide), fun y => absurd y (by decide), fun y => absurd y (by decide), fun y => absurd y (by decide), fun _ => ?_, fun y => absurd y (by decide), fun y => absurd y (by decide), fun y => absurd y (by decide), fun y => absurd y (by decide), fun y => absurd y (by decide), fun y => absurd y (by decide), fun y => absurd y (by decide), fun y => absurd y (by decide), fun y => absurd y (by decide), fun y => absurd y (by decide), fun y => absurd y (by decide), fun y => absurd y (by decide), fun y => absurd y (by decide)⟩
      unfold P_X8_about
      refine ⟨fun y => absurd y (by decide), fun y => absurd y (by decide), fun y => absurd y (by decide), fun y => absurd y (by decide), fun y => absurd y (by decide), fun y => absurd y (by decide), fun y => absurd y (by decide), fun _ => ?_, fun y => absurd y (by decide), fun y => absurd y (by decide), fun y => absurd y (by decide), fun y => absurd y (by decide), fun y => absurd y (by decide), fun y => absurd y (by decide), fun y => absurd y (by decide), fun y => absurd y (by decide), fun y => absurd y (by decide), fun y => absurd y (by decide), fun y => absurd y (by decide), fun y => absurd y (by decide), fun y => absurd y (by decide)⟩
      refine sp_inY (by decide) (by decide) (if10 ?_)
      unfold P_X8_counted
      refine ⟨fun y => absurd y (by decide), fun _ => ?_, fun y => absurd y (by decide), fun y => absurd y (by decide), fun y => absurd y (by decide)⟩
      rw [tn21]
      exact eqN2 (by rw [eqd, e21]) (hNR _ _ _)
    · refine ⟨fun y => absurd y (by decide), fun y => absurd y (by decide), fun y => absurd y (by decide), fun y => absurd y (by decide), fun y => absurd y (by decide), fun y => absurd y (by decide), fun y => absurd y (by decide), fun y => absurd y (by decide), fun _ => ?_, fun y => absurd y (by decide), fun y => absurd y (by decide), fun y => absurd y (by decide), fun y => absurd y (by decide), fun y => absurd y (by decide), fun y => absurd y (by decide), fun y => absurd y (by decide), fun y => absurd y (by decide), fun y => absurd y (by decide), fun y => absurd y (by decide), fun y => absurd y (by decide), fun y => absurd y (by decide)⟩
      unfold P_X8_about
      refine ⟨fun y => absurd y (by decide), fun y => absurd y (by decide), fun y => absurd y (by decide), fun y => absurd y (by decide), fun y => absurd y (by decide), fun y => absurd y (by decide), fun y => absurd y (by decide), fun y => absurd y (by decide), fun _ => ?_, fun y => absurd y (by decide), fun y => absurd y (by decide), fun y => absurd y (by decide), fun y => absurd y (by decide), fun y => absurd y (by decide), fun y => absurd y (by decide), fun y => absurd y (by decide), fun y => absurd y (by decide), fun y => absurd y (by decide), fun y => absurd y (by decide), fun y => absurd y (by decide), fun y => absurd y (by decide)⟩
      refine sp_inY (by decide) (by decide) (if10 ?_)
      unfold P_X8_counted
      refine ⟨fun y => absurd y (by decide), fun y => absurd y (by decide), fun _ => ?_, fun y => absurd y (by decide), fun y => absurd y (by decide)⟩
      rw [tn22]
      exact eqN2 (e22.symm) (hNR _ _ _)
    · refine ⟨fun y => absurd y (by decide), fun y => absurd y (by decide), fun y => absurd y (by decide), fun y => absurd y (by decide), fun y => absurd y (by decide), fun y => absurd y (by decide), fun y => absurd y (by decide), fun y => absurd y (by decide), fun y => absurd y (by decide), fun _ => ?_, fun y => absurd y (by decide), fun y => absurd y (by decide), fun y => absurd y (by decide), fun y => absurd y (by decide), fun y => absurd y (by decide), fun y => absurd y (by decide), fun y => absurd y (by decide), fun y => absurd y (by decide), fun y => absurd y (by decide), fun y => absurd y (by decide), fun y => absurd y (by decide)⟩
      unfold P_X8_about
      refine ⟨fun y => absurd y (by decide), fun y => absurd y (by decide), fun y => absurd y (by decide), fun y => absurd y (by decide), fun y => absurd y (by decide), fun y => absurd y (by decide), fun y => absurd y (by decide), fun y => absurd y (by decide), fun y => absurd y (by decide), fun _ => ?_, fun y => absurd y (by decide), fun y => absurd y (by decide), fun y => absurd y (by decide), fun y => absurd y (by decide), fun y => absurd y (by decide), fun y => absurd y (by decide), fun y => absurd y (by decide), fun y => absurd y (by decide), fun y => absurd y (by decide), fun y => absurd y (by decide), fun y => absurd y (by decide)⟩
      refine sp_inY (by decide) (by decide) (if10 ?_)
      unfold P_X8_counted
      refine ⟨fun y => absurd y (by decide), fun y => absurd y (by decide), fun y => absurd y (by decide), fun _ => ?_, fun y => absurd y (by decide)⟩
      rw [tn23]
      exact eqN2 (e23.symm) (hNR _ _ _)
    · refine ⟨fun y => absurd y (by decide), fun y => absurd y (by decide), fun y => absurd y (by decide), fun y => absurd y (by decide), fun y => absurd y (by decide), fun y => absurd y (by decide), fun y => absurd y (by decide), fun y => absurd y (by decide), fun y => absurd y (by decide), fun y => absurd y (by decide), fun _ => ?_, fun y => absurd y (by decide), fun y => absurd y (by decide), fun y => absurd y (by decide), fun y => absurd y (by decide), fun y => absurd y (by decide), fun y => absurd y (by decide), fun y => absurd y (by decide), fun y => absurd y (by decide), fun y => absurd y (by decide), fun y => absurd y (by decide)⟩
      unfold P_X8_about
      refine ⟨fun y => absurd y (by decide), fun y => absurd y (by decide), fun y => absurd y (by decide), fun y => absurd y (by decide), fun y => absurd y (by decide), fun y => absurd y (by decide), fun y => absurd y (by decide), fun y => absurd y (by decide), fun y => absurd y (by decide), fun y => absurd y (by decide), fun _ => ?_, fun y => absurd y (by decide), fun y => absurd y (by decide), fun y => absurd y (by decide), fun y => absurd y (by decide), fun y => absurd y (by decide), fun y => absurd y (by decide), fun y => absurd y (by decide), fun y => absurd y (by decide), fun y => absurd y (by decide), fun y => absurd y (by decide)⟩
      refine sp_inY (by decide) (by decide) (if10 ?_)
      unfold P_X8_counted
      refine ⟨fun y => absurd y (by decide), fun y => absurd y (by decide), fun y => absurd y (by decide), fun y => absurd y (by decide), fun _ => ?_⟩
      rw [tn24]
      exact eqN2 (e24.symm) (hNR _ _ _)
    · refine ⟨fun y => absurd y (by decide), fun y => absurd y (by decide), fun y => absurd y (by decide), fun y => absurd y (by decide), fun y => absurd y (by decide), fun y => absurd y (by decide), fun y => absurd y (by decide), fun y => absurd y (by decide), fun y => absurd y (by decide), fun y => absurd y (by decide), fun y => absurd y (by decide), fun _ => ?_, fun y => absurd y (by decide), fun y => absurd y (by decide), fun y => absurd y (by decide), fun y => absurd y (by decide), fun y => absurd y (by decide), fun y => absurd y (by decide), fun y => absurd y (by decide), fun y => absurd y (by decide), fun y => absurd y (by decide)⟩
      unfold P_X8_about
      refine ⟨fun y => absurd y (by decide), fun y => absurd y (by decide), fun y => absurd y (by decide), fun y => absurd y (by decide), fun y => absurd y (by decide), fun y => absurd y (by decide), fun y => absurd y (by decide), fun y => absurd y (by decide), fun y => absurd y (by decide), fun y => absurd y (by decide), fun y => absurd y (by decide), fun _ => ?_, fun y => absurd y (by decide), fun y => absurd y (by decide), fun y => absurd y (by decide), fun y => absurd y (by decide), fun y => absurd y (by decide), fun y => absurd y (by decide), fun y => absurd y (by decide), fun y => absurd y (by decide), fun y => absurd y (by decide)⟩
      refine sp_inY (by decide) (by decide) (if10 ?_)
      unfold P_X8_counted
      refine ⟨fun _ => ⟨vp_lit (by decide), ?_⟩, fun y => absurd y (by decide), fun y => absurd y (by decide), fun y => absurd y (by decide), fun y => absurd y (by decide)⟩
      rw [show Int32.toNatClampNeg (((25 : Int32) + nI 10) - (10 : Int32)) = 25 by decide]
      exact eqN2 (e25.symm) (hNR _ _ _)
    · refine ⟨fun y => absurd y (by decide), fun y => absurd y (by decide), fun y => absurd y (by decide), fun y => absurd y (by decide), fun y => absurd y (by decide), fun y => absurd y (by decide), fun y => absurd y (by decide), fun y => absurd y (by decide), fun y => absurd y (by decide), fun y => absurd y (by decide), fun y => absurd y (by decide), fun y => absurd y (by decide), fun _ => ?_, fun y => absurd y (by decide), fun y => absurd y (by decide), fun y => absurd y (by decide), fun y => absurd y (by decide), fun y => absurd y (by decide), fun y => absurd y (by decide), fun y => absurd y (by decide), fun y => absurd y (by decide)⟩
      unfold P_X8_about
      refine ⟨fun y => absurd y (by decide), fun y => absurd y (by decide), fun y => absurd y (by decide), fun y => absurd y (by decide), fun y => absurd y (by decide), fun y => absurd y (by decide), fun y => absurd y (by decide), fun y => absurd y (by decide), fun y => absurd y (by decide), fun y => absurd y (by decide), fun y => absurd y (by decide), fun y => absurd y (by decide), fun _ => ?_, fun y => absurd y (by decide), fun y => absurd y (by decide), fun y => absurd y (by decide), fun y => absurd y (by decide), fun y => absurd y (by decide), fun y => absurd y (by decide), fun y => absurd y (by decide), fun y => absurd y (by decide)⟩
      refine sp_inY (by decide) (by decide) (if10 ?_)
      unfold P_X8_counted
      refine ⟨fun _ => ⟨vp_lit (by decide), ?_⟩, fun y => absurd y (by decide), fun y => absurd y (by decide), fun y => absurd y (by decide), fun y => absurd y (by decide)⟩
      rw [show Int32.toNatClampNeg (((25 : Int32) + nI 11) - (10 : Int32)) = 26 by decide]
      exact eqN2 (e26.symm) (hNR _ _ _)
    · refine ⟨fun y => absurd y (by decide), fun y => absurd y (by decide), fun y => absurd y (by decide), fun y => absurd y (by decide), fun y => absurd y (by decide), fun y => absurd y (by decide), fun y => absurd y (by decide), fun y => absurd y (by decide), fun y => absurd y (by decide), fun y => absurd y (by decide), fun y => absurd y (by decide), fun y => absurd y (by decide), fun y => absurd y (by decide), fun _ => ?_, fun y => absurd y (by decide), fun y => absurd y (by decide), fun y => absurd y (by decide), fun y => absurd y (by decide), fun y => absurd y (by decide), fun y => absurd y (by decide), fun y => absurd y (by decide)⟩
      unfold P_X8_about
      refine ⟨fun y => absurd y (by decide), fun y => absurd y (by decide), fun y => absurd y (by decide), fun y => absurd y (by decide), fun y => absurd y (by decide), fun y => absurd y (by decide), fun y => absurd y (by decide), fun y => absurd y (by decide), fun y => absurd y (by decide), fun y => absurd y (by decide), fun y => absurd y (by decide), fun y => absurd y (by decide), fun y => absurd y (by decide), fun _ => ?_, fun y => absurd y (by decide), fun y => absurd y (by decide), fun y => absurd y (by decide), fun y => absurd y (by decide), fun y => absurd y (by decide), fun y => absurd y (by decide), fun y => absurd y (by decide)⟩
      refine sp_inY (by decide) (by decide) (if10 ?_)
      unfold P_X8_counted
      refine ⟨fun _ => ⟨vp_lit (by decide), ?_⟩, fun y => absurd y (by decide), fun y => absurd y (by decide), fun y => absurd y (by decide), fun y => absurd y (by decide)⟩
      rw [show Int32.toNatClampNeg (((25 : Int32) + nI 12) - (10 : Int32)) = 27 by decide]
      exact eqN2 (e27.symm) (hNR _ _ _)
    · refine ⟨fun y => absurd y (by decide), fun y => absurd y (by decide), fun y => absurd y (by decide), fun y => absurd y (by decide), fun y => absurd y (by decide), fun y => absurd y (by decide), fun y => absurd y (by decide), fun y => absurd y (by decide), fun y => absurd y (by decide), fun y => absurd y (by decide), fun y => absurd y (by decide), fun y => absurd y (by decide), fun y => absurd y (by decide), fun y => absurd y (by decide), fun _ => ?_, fun y => absurd y (by decide), fun y => absurd y (by decide), fun y => absurd y (by decide), fun y => absurd y (by decide), fun y => absurd y (by decide), fun y => absurd y (by decide)⟩
      unfold P_X8_about
      refine ⟨fun y => absurd y (by decide), fun y => absurd y (by decide), fun y => absurd y (by decide), fun y => absurd y (by decide), fun y => absurd y (by decide), fun y => absurd y (by decide), fun y => absurd y (by decide), fun y => absurd y (by decide), fun y => absurd y (by decide), fun y => absurd y (by decide), fun y => absurd y (by decide), fun y => absurd y (by decide), fun y => absurd y (by decide), fun y => absurd y (by decide), fun _ => ?_, fun y => absurd y (by decide), fun y => absurd y (by decide), fun y => absurd y (by decide), fun y => absurd y (by decide), fun y => absurd y (by decide), fun y => absurd y (by decide)⟩
      refine sp_inY (by decide) (by decide) (if10 ?_)
      unfold P_X8_counted
      refine ⟨fun _ => ⟨vp_lit (by decide), ?_⟩, fun y => absurd y (by decide), fun y => absurd y (by decide), fun y => absurd y (by decide), fun y => absurd y (by decide)⟩
      rw [show Int32.toNatClampNeg (((25 : Int32) + nI 13) - (10 : Int32)) = 28 by decide]
      exact eqN2 (e28.symm) (hNR _ _ _)
    · refine ⟨fun y => absurd y (by decide), fun y => absurd y (by decide), fun y => absurd y (by decide), fun y => absurd y (by decide), fun y => absurd y (by decide), fun y => absurd y (by decide), fun y => absurd y (by decide), fun y => absurd y (by decide), fun y => absurd y (by decide), fun y => absurd y (by decide), fun y => absurd y (by decide), fun y => absurd y (by decide), fun y => absurd y (by decide), fun y => absurd y (by decide), fun y => absurd y (by decide), fun _ => ?_, fun y => absurd y (by decide), fun y => absurd y (by decide), fun y => absurd y (by decide), fun y => absurd y (by decide), fun y => absurd y (by decide)⟩
      unfold P_X8_about
      refine ⟨fun y => absurd y (by decide), fun y => absurd y (by decide), fun y => absurd y (by decide), fun y => absurd y (by decide), fun y => absurd y (by decide), fun y => absurd y (by decide), fun y => absurd y (by decide), fun y => absurd y (by decide), fun y => absurd y (by decide), fun y => absurd y (by decide), fun y => absurd y (by decide), fun y => absurd y (by decide), fun y => absurd y (by decide), fun y => absurd y (by decide), fun y => absurd y (by decide), fun _ => ?_, fun y => absurd y (by decide), fun y => absurd y (by decide), fun y => absurd y (by decide), fun y => absurd y (by decide), fun y => absurd y (by decide)⟩
      refine sp_inY (by decide) (by decide) (if10 ?_)
      unfold P_X8_counted
      refine ⟨fun _ => ⟨vp_lit (by decide), ?_⟩, fun y => absurd y (by decide), fun y => absurd y (by decide), fun y => absurd y (by decide), fun y => absurd y (by decide)⟩
      rw [show Int32.toNatClampNeg (((25 : Int32) + nI 14) - (10 : Int32)) = 29 by decide]
      exact eqN2 (e29.symm) (hNR _ _ _)
    · refine ⟨fun y => absurd y (by decide), fun y => absurd y (by decide), fun y => absurd y (by decide), fun y => absurd y (by decide), fun y => absurd y (by decide), fun y => absurd y (by decide), fun y => absurd y (by decide), fun y => absurd y (by decide), fun y => absurd y (by decide), fun y => absurd y (by decide), fun y => absurd y (by decide), fun y => absurd y (by decide), fun y => absurd y (by decide), fun y => absurd y (by decide), fun y => absurd y (by decide), fun y => absurd y (by decide), fun _ => ?_, fun y => absurd y (by decide), fun y => absurd y (by decide), fun y => absurd y (by decide), fun y => absurd y (by decide)⟩
      rw [eqd]
      refine sp_ticks7 hn hp1 hp8 hq8 (hC.qu256 hn) (fun p' t' s' => ?_)
      unfold P_X8_about
      refine ⟨fun y => absurd y (by decide), fun y => absurd y (by decide), fun y => absurd y (by decide), fun y => absurd y (by decide), fun y => absurd y (by decide), fun y => absurd y (by decide), fun y => absurd y (by decide), fun y => absurd y (by decide), fun y => absurd y (by decide), fun y => absurd y (by decide), fun y => absurd y (by decide), fun y => absurd y (by decide), fun y => absurd y (by decide), fun y => absurd y (by decide), fun y => absurd y (by decide), fun y => absurd y (by decide), fun _ => ?_, fun y => absurd y (by decide), fun y => absurd y (by decide), fun y => absurd y (by decide), fun y => absurd y (by decide)⟩
      exact sp_ticks8 hn hp1 hp8 hC (fun p2 m2 s2 => eqN (hN _ _ _ _ _ _ _ _ _ _ _ _ _ _ _ _ _ _ _ _ _ _ _ _ _ _ _ _ _ _ _  hzt))
    · refine ⟨fun y => absurd y (by decide), fun y => absurd y (by decide), fun y => absurd y (by decide), fun y => absurd y (by decide), fun y => absurd y (by decide), fun y => absurd y (by decide), fun y => absurd y (by decide), fun y => absurd y (by decide), fun y => absurd y (by decide), fun y => absurd y (by decide), fun y => absurd y (by decide), fun y => absurd y (by decide), fun y => absurd y (by decide), fun y => absurd y (by decide), fun y => absurd y (by decide), fun y => absurd y (by decide), fun y => absurd y (by decide), fun _ => ?_, fun y => absurd y (by decide), fun y => absurd y (by decide), fun y => absurd y (by decide)⟩
      refine sp_leastRest hn hC (fun p' a1 a2 a3 a4 a5 a6 a7 a8 a9 a10 a11 a12 b1 b2 b3 b4 b5 b6 b7 b8 b9 b10 b11 b12 => ?_)
      unfold P_X8_about
      refine ⟨fun y => absurd y (by decide), fun y => absurd y (by decide), fun y => absurd y (by decide), fun y => absurd y (by decide), fun y => absurd y (by decide), fun y => absurd y (by decide), fun y => absurd y (by decide), fun y => absurd y (by decide), fun y => absurd y (by decide), fun y => absurd y (by decide), fun y => absurd y (by decide), fun y => absurd y (by decide), fun y => absurd y (by decide), fun y => absurd y (by decide), fun y => absurd y (by decide), fun y => absurd y (by decide), fun y => absurd y (by decide), fun _ => ?_, fun y => absurd y (by decide), fun y => absurd y (by decide), fun y => absurd y (by decide)⟩
      exact sp_restNow hn hq8 e21 hz hzt (fun t2 p2 hz2 => eqN (hN _ _ _ _ _ _ _ _ _ _ _ _ _ _ _ _ _ _ _ _ _ _ _ _ _ _ _ _ _ _ _  hz2))
    · refine ⟨fun y => absurd y (by decide), fun y => absurd y (by decide), fun y => absurd y (by decide), fun y => absurd y (by decide), fun y => absurd y (by decide), fun y => absurd y (by decide), fun y => absurd y (by decide), fun y => absurd y (by decide), fun y => absurd y (by decide), fun y => absurd y (by decide), fun y => absurd y (by decide), fun y => absurd y (by decide), fun y => absurd y (by decide), fun y => absurd y (by decide), fun y => absurd y (by decide), fun y => absurd y (by decide), fun y => absurd y (by decide), fun y => absurd y (by decide), fun _ => ?_, fun y => absurd y (by decide), fun y => absurd y (by decide)⟩
      unfold P_X8_about
      refine ⟨fun y => absurd y (by decide), fun y => absurd y (by decide), fun y => absurd y (by decide), fun y => absurd y (by decide), fun y => absurd y (by decide), fun y => absurd y (by decide), fun y => absurd y (by decide), fun y => absurd y (by decide), fun y => absurd y (by decide), fun y => absurd y (by decide), fun y => absurd y (by decide), fun y => absurd y (by decide), fun y => absurd y (by decide), fun y => absurd y (by decide), fun y => absurd y (by decide), fun y => absurd y (by decide), fun y => absurd y (by decide), fun y => absurd y (by decide), fun _ => ?_, fun y => absurd y (by decide), fun y => absurd y (by decide)⟩
      exact eqN (hNR _ _ _)
    · refine ⟨fun y => absurd y (by decide), fun y => absurd y (by decide), fun y => absurd y (by decide), fun y => absurd y (by decide), fun y => absurd y (by decide), fun y => absurd y (by decide), fun y => absurd y (by decide), fun y => absurd y (by decide), fun y => absurd y (by decide), fun y => absurd y (by decide), fun y => absurd y (by decide), fun y => absurd y (by decide), fun y => absurd y (by decide), fun y => absurd y (by decide), fun y => absurd y (by decide), fun y => absurd y (by decide), fun y => absurd y (by decide), fun y => absurd y (by decide), fun y => absurd y (by decide), fun _ => ?_, fun y => absurd y (by decide)⟩
      unfold P_X8_about
      refine ⟨fun y => absurd y (by decide), fun y => absurd y (by decide), fun y => absurd y (by decide), fun y => absurd y (by decide), fun y => absurd y (by decide), fun y => absurd y (by decide), fun y => absurd y (by decide), fun y => absurd y (by decide), fun y => absurd y (by decide), fun y => absurd y (by decide), fun y => absurd y (by decide), fun y => absurd y (by decide), fun y => absurd y (by decide), fun y => absurd y (by decide), fun y => absurd y (by decide), fun y => absurd y (by decide), fun y => absurd y (by decide), fun y => absurd y (by decide), fun y => absurd y (by decide), fun _ => ?_, fun y => absurd y (by decide)⟩
      exact eqN (hNR _ _ _)
    · refine ⟨fun y => absurd y (by decide), fun y => absurd y (by decide), fun y => absurd y (by decide), fun y => absurd y (by decide), fun y => absurd y (by decide), fun y => absurd y (by decide), fun y => absurd y (by decide), fun y => absurd y (by decide), fun y => absurd y (by decide), fun y => absurd y (by decide), fun y => absurd y (by decide), fun y => absurd y (by decide), fun y => absurd y (by decide), fun y => absurd y (by decide), fun y => absurd y (by decide), fun y => absurd y (by decide), fun y => absurd y (by decide), fun y => absurd y (by decide), fun y => absurd y (by decide), fun y => absurd y (by decide), fun _ => ?_⟩
      unfold P_X8_about
      refine ⟨fun y => absurd y (by decide), fun y => absurd y (by decide), fun y => absurd y (by decide), fun y => absurd y (by decide), fun y => absurd y (by decide), fun y => absurd y (by decide), fun y => absurd y (by decide), fun y => absurd y (by decide), fun y => absurd y (by decide), fun y => absurd y (by decide), fun y => absurd y (by decide), fun y => absurd y (by decide), fun y => absurd y (by decide), fun y => absurd y (by decide), fun y => absurd y (by decide), fun y => absurd y (by decide), fun y => absurd y (by decide), fun y => absurd y (by decide), fun y => absurd y (by decide), fun y => absurd y (by decide), fun _ => ?_⟩
      exact eqN (hNR _ _ _)
