/-! ===== pure rows: which ===== -/
def okW (n : Nat) (c lo hi gh : Int32) (r sd sl sh : Nat → Int32) (d i : Nat) : Bool :=
  if (sd i).toNatClampNeg < n then decide ((prLs n c lo hi gh ((1 : Int32) <<< (nI d &&& (31 : Int32))) (sl i).toNatClampNeg r).2 (sd i).toNatClampNeg = sh i) else true
def alW (n : Nat) (c lo hi gh : Int32) (r sd sl sh : Nat → Int32) (d : Nat) : Nat → Bool
  | 0 => true
  | k + 1 => alW n c lo hi gh r sd sl sh d k && okW n c lo hi gh r sd sl sh d k
theorem alW_mono {n : Nat} {c lo hi gh : Int32} {r sd sl sh : Nat → Int32} {d k : Nat} (h : alW n c lo hi gh r sd sl sh d k = false) : ∀ m, alW n c lo hi gh r sd sl sh d (k + m) = false := by
  intro m
  induction m with
  | zero => exact h
  | succ m ih =>
    show (alW n c lo hi gh r sd sl sh d (k + m) && _) = false
    rw [ih]; rfl
def wsF (n : Nat) (c lo hi gh : Int32) (r sd sl sh : Nat → Int32) (s : Nat) (d : Nat) (x : Int32) : Int32 := if alW n c lo hi gh r sd sl sh d s then x ||| ((1 : Int32) <<< (nI d &&& (31 : Int32))) else x
theorem sp_agrees {n q s d0 : Nat} (hn : n ≤ 8) (hs6 : s ≤ 6) {c lo hi gh qd la be ri a b d g pr tq tl tb' tr ta tp td tg tn : Int32} {p hs fg qu th tf tu r sd sl sh : Nat → Int32} (hC : CR n q qd la be ri a b d g pr hs fg qu r)
    (hsd : ∀ i, i < s → (∃ v, v < 8 ∧ sd i = nI v) ∧ ∃ v, v ≤ 8 ∧ sl i = nI v) {K : Int32 → (Nat → Int32) → Int32 → Int32 → Int32 → Int32 → Int32 → Int32 → Int32 → Int32 → Int32 → (Nat → Int32) → (Nat → Int32) → (Nat → Int32) → Prop}
    (hK : ∀ p' a1 a2 a3 a4 a5 a6 a7 a8 a9 f1 f2 f3, K (nI (bn (alW n c lo hi gh r sd sl sh d0 s))) p' a1 a2 a3 a4 a5 a6 a7 a8 a9 f1 f2 f3) :
    P_X7_agreesWithSights ((1 : Int32) <<< (nI d0 &&& (31 : Int32))) (nI n) c lo hi gh p qd la be ri a b d g pr hs fg qu tq tl tb' tr ta tp td tg tn th tf tu (nI s) sd sl sh K := by
  unfold P_X7_agreesWithSights
  have key : ∀ m k p a1 a2 a3 a4 a5 a6 a7 a8 a9 f1 f2 f3, k + m = s → alW n c lo hi gh r sd sl sh d0 k = true → P_X7_agreesWithSights_L2 (nI n) c lo hi gh qd la be ri a b d g pr hs fg qu (nI s) sd sl sh ((1 : Int32) <<< (nI d0 &&& (31 : Int32)))
      (fun p a1 a2 a3 a4 a5 a6 a7 a8 a9 f1 f2 f3 => K 0 p a1 a2 a3 a4 a5 a6 a7 a8 a9 f1 f2 f3) (fun p a1 a2 a3 a4 a5 a6 a7 a8 a9 f1 f2 f3 => K 1 p a1 a2 a3 a4 a5 a6 a7 a8 a9 f1 f2 f3) (m + 1) (nI k) p a1 a2 a3 a4 a5 a6 a7 a8 a9 f1 f2 f3 := by
    intro m
    induction m with
    | zero =>
      intro k p a1 a2 a3 a4 a5 a6 a7 a8 a9 f1 f2 f3 hk hal
      unfold P_X7_agreesWithSights_L2
      have e : k = s := by omega
      subst e
      rw [hal] at hK
      exact br_t (nI_le (Nat.le_refl _) (by omega)) (hK _ _ _ _ _ _ _ _ _ _ _ _ _)
    | succ m ih =>
      intro k p a1 a2 a3 a4 a5 a6 a7 a8 a9 f1 f2 f3 hk hal
      unfold P_X7_agreesWithSights_L2
      refine br_f (nI_ge (by omega) (by omega)) ⟨vp_in_nI (by omega) (by omega), ?_⟩
      rw [nI_clamp (by omega : k < 2 ^ 31), nI_1]
      obtain ⟨⟨v, hv, ev⟩, w, hw, ew⟩ := hsd k (by omega)
      have estep : alW n c lo hi gh r sd sl sh d0 (k + 1) = okW n c lo hi gh r sd sl sh d0 k := by
        show (alW n c lo hi gh r sd sl sh d0 k && _) = _
        rw [hal]; rfl
      rw [ev, ew]
      by_cases hvn : v < n
      · refine sp_hasDotOn hn hvn (if10 (sp_heatBehind hn (by omega) (by omega) hC ?_))
        intro p' b1 b2 b3 b4 b5 b6 b7 b8 b9 g1 g2 g3
        have eok : okW n c lo hi gh r sd sl sh d0 k = decide ((prLs n c lo hi gh ((1 : Int32) <<< (nI d0 &&& (31 : Int32))) w r).2 v = sh k) := by
          unfold okW
          rw [ev, ew, nI_clamp (by omega : v < 2 ^ 31), nI_clamp (by omega : w < 2 ^ 31), if_pos hvn]
        refine ⟨fun h => ih (k + 1) _ _ _ _ _ _ _ _ _ _ _ _ _ (by omega) ?_, fun h => ?_⟩
        · rw [estep, eok, decide_eq_true_eq]; exact h
        · have hf : alW n c lo hi gh r sd sl sh d0 (k + 1) = false := by
            rw [estep, eok, decide_eq_false_iff_not]; exact h
          have := alW_mono hf m
          rw [show k + 1 + m = s by omega] at this
          rw [this] at hK
          exact hK _ _ _ _ _ _ _ _ _ _ _ _ _
      · refine sp_hasDotOff (Or.inr (nI_le (by omega) (by omega))) (if00 (ih (k + 1) _ _ _ _ _ _ _ _ _ _ _ _ _ (by omega) ?_))
        rw [estep]
        unfold okW
        rw [ev, nI_clamp (by omega : v < 2 ^ 31), if_neg hvn]
  have h := key s 0 p tq tl tb' tr ta tp td tg tn th tf tu (by omega) rfl
  rw [nI_0] at h
  exact ⟨s + 1, h⟩
theorem sp_which7 {n q s : Nat} (hn : n ≤ 8) (hs6 : s ≤ 6) {c lo hi gh qd la be ri a b d g pr tq tl tb' tr ta tp td tg tn : Int32} {p hs fg qu th tf tu r sd sl sh : Nat → Int32} (hC : CR n q qd la be ri a b d g pr hs fg qu r)
    (hsd : ∀ i, i < s → (∃ v, v < 8 ∧ sd i = nI v) ∧ ∃ v, v ≤ 8 ∧ sl i = nI v) {K : Int32 → (Nat → Int32) → Int32 → Int32 → Int32 → Int32 → Int32 → Int32 → Int32 → Int32 → Int32 → (Nat → Int32) → (Nat → Int32) → (Nat → Int32) → Prop}
    (hK : ∀ p' a1 a2 a3 a4 a5 a6 a7 a8 a9 f1 f2 f3, K (itr (wsF n c lo hi gh r sd sl sh s) n 0) p' a1 a2 a3 a4 a5 a6 a7 a8 a9 f1 f2 f3) :
    P_X7_which (nI n) c lo hi gh p qd la be ri a b d g pr hs fg qu tq tl tb' tr ta tp td tg tn th tf tu (nI s) sd sl sh K := by
  unfold P_X7_which
  have key : ∀ m k p a1 a2 a3 a4 a5 a6 a7 a8 a9 f1 f2 f3, k + m = n → P_X7_which_L4 (nI n) c lo hi gh qd la be ri a b d g pr hs fg qu (nI s) sd sl sh
      (fun x p a1 a2 a3 a4 a5 a6 a7 a8 a9 f1 f2 f3 => K x p a1 a2 a3 a4 a5 a6 a7 a8 a9 f1 f2 f3) (m + 1) (itr (wsF n c lo hi gh r sd sl sh s) k 0) (nI k) p a1 a2 a3 a4 a5 a6 a7 a8 a9 f1 f2 f3 := by
    intro m
    induction m with
    | zero =>
      intro k p a1 a2 a3 a4 a5 a6 a7 a8 a9 f1 f2 f3 hk
      unfold P_X7_which_L4
      have e : k = n := by omega
      subst e
      exact br_t (nI_le (Nat.le_refl _) (by omega)) (hK _ _ _ _ _ _ _ _ _ _ _ _ _)
    | succ m ih =>
      intro k p a1 a2 a3 a4 a5 a6 a7 a8 a9 f1 f2 f3 hk
      unfold P_X7_which_L4
      refine br_f (nI_ge (by omega) (by omega)) (sp_agrees hn hs6 hC hsd ?_)
      intro p' b1 b2 b3 b4 b5 b6 b7 b8 b9 g1 g2 g3
      rw [nI_1]
      have h := ih (k + 1) p' b1 b2 b3 b4 b5 b6 b7 b8 b9 g1 g2 g3 (by omega)
      have e : itr (wsF n c lo hi gh r sd sl sh s) (k + 1) 0 = wsF n c lo hi gh r sd sl sh s k (itr (wsF n c lo hi gh r sd sl sh s) k 0) := rfl
      rw [e] at h
      unfold wsF at h
      cases hal : alW n c lo hi gh r sd sl sh k s with
      | true => rw [hal, if_pos rfl] at h; exact if10 h
      | false => rw [hal, if_neg (by decide)] at h; exact if00 h
  have h := key n 0 p tq tl tb' tr ta tp td tg tn th tf tu (by omega)
  rw [nI_0] at h
  exact ⟨n + 1, h⟩
theorem or_zero32 (x : Int32) : x ||| 0 = x := by
  apply Int32.toBitVec_inj.mp
  rw [Int32.toBitVec_or]
  simp
theorem sp_isSoBy {n q d0 k : Nat} (h1 : 1 ≤ n) (hn : n ≤ 8) (hk6 : k < 6) {c lo hi gh : Int32} {r t0 p sd sl sh : Nat → Int32} (hq : q ≤ 8) (h21 : r 21 = nI q) (hz : Z30 r) (hzt : Z30 t0)
    (hsd : (∃ v, v < 8 ∧ sd k = nI v) ∧ ∃ v, v ≤ 8 ∧ sl k = nI v) {K : Int32 → Int32 → (Nat → Int32) → (Nat → Int32) → Prop}
    (hK : ∀ t' p', Z30 t' → K (nI (bn (okW n c lo hi gh r sd sl sh d0 k))) 0 t' p') :
    P_X8_isSoBy (nI d0) (nI k) (nI n) c lo hi gh 0 r t0 sd sl sh p K := by
  unfold P_X8_isSoBy
  refine ⟨vp_in_nI (by omega) (by omega), ?_⟩
  rw [nI_clamp (by omega : k < 2 ^ 31)]
  obtain ⟨⟨v, hv, ev⟩, w, hw, ew⟩ := hsd
  by_cases hvn : v < n
  · have eok : okW n c lo hi gh r sd sl sh d0 k = decide ((prLs n c lo hi gh ((1 : Int32) <<< (nI d0 &&& (31 : Int32))) w r).2 v = sh k) := by
      unfold okW
      rw [ev, ew, nI_clamp (by omega : v < 2 ^ 31), nI_clamp (by omega : w < 2 ^ 31), if_pos hvn]
    rw [ev, ew]
    refine sp_isDotOn h1 hn hvn (if10' (sp_copy ?_))
    rw [cp_eq hz hzt]
    refine sp_printLines hn (by omega) hq h21 ?_
    intro p'
    have hz' := Z30.prLs (c := c) (lo := lo) (hi := hi) (gh := gh) (dd := (1 : Int32) <<< (nI d0 &&& (31 : Int32))) hn w q r hq h21 hz
    refine ⟨vp_in_nI (by omega) (by omega), ?_⟩
    rw [nI_clamp (by omega : v < 2 ^ 31)]
    refine ⟨fun h => ?_, fun h => ?_⟩
    · have := hK _ p' hz'
      rw [eok, decide_eq_false h] at this
      exact this
    · have := hK _ p' hz'
      rw [eok, decide_eq_true h] at this
      exact this
  · rw [ev]
    refine sp_isDotOff h1 hn (Or.inr (nI_le (by omega) (by omega))) (if00' ?_)
    have := hK t0 p hzt
    unfold okW at this
    rw [ev, nI_clamp (by omega : v < 2 ^ 31), if_neg hvn] at this
    exact this
theorem sp_which8 {n q s : Nat} (h1 : 1 ≤ n) (hn : n ≤ 8) (hs6 : s ≤ 6) {c lo hi gh : Int32} {r t0 p sd sl sh : Nat → Int32} (hq : q ≤ 8) (h21 : r 21 = nI q) (hz : Z30 r) (hzt : Z30 t0)
    (hsd : ∀ i, i < s → (∃ v, v < 8 ∧ sd i = nI v) ∧ ∃ v, v ≤ 8 ∧ sl i = nI v) {K : Int32 → Int32 → (Nat → Int32) → (Nat → Int32) → Prop}
    (hK : ∀ t' p', Z30 t' → K (itr (wsF n c lo hi gh r sd sl sh s) n 0) 0 t' p') :
    P_X8_which (nI n) c lo hi gh (nI s) 0 r t0 sd sl sh p K := by
  unfold P_X8_which
  have inner : ∀ (x1 : Int32) (d0 : Nat) (C : Int32 → Int32 → (Nat → Int32) → (Nat → Int32) → Prop), (∀ t' p', Z30 t' → C (nI (bn (alW n c lo hi gh r sd sl sh d0 s))) 0 t' p') → ∀ m k t p, k + m = s → Z30 t → P_X8_which_L17 (nI n) c lo hi gh (nI s) r sd sl sh x1 (nI d0) C (m + 1) (nI (bn (alW n c lo hi gh r sd sl sh d0 k))) (nI k) 0 t p := by
    intro x1 d0 C hC m
    induction m with
    | zero =>
      intro k t p hk hzt
      unfold P_X8_which_L17
      have e : k = s := by omega
      subst e
      exact br_t (nI_le (Nat.le_refl _) (by omega)) (hC _ _ hzt)
    | succ m ih =>
      intro k t p hk hzt
      unfold P_X8_which_L17
      refine br_f (nI_ge (by omega) (by omega)) ?_
      rw [nI_1]
      have e : alW n c lo hi gh r sd sl sh d0 (k + 1) = (alW n c lo hi gh r sd sl sh d0 k && okW n c lo hi gh r sd sl sh d0 k) := rfl
      cases hal : alW n c lo hi gh r sd sl sh d0 k with
      | false =>
        rw [hal] at e
        refine if00 ?_
        have h := ih (k + 1) t p (by omega) hzt
        rw [e] at h
        exact h
      | true =>
        rw [hal] at e
        refine if10 (sp_isSoBy h1 hn (by omega) hq h21 hz hzt (hsd k (by omega)) ?_)
        intro t' p' hz'
        have h := ih (k + 1) t' p' (by omega) hz'
        rw [e] at h
        cases hok : okW n c lo hi gh r sd sl sh d0 k with
        | true => rw [hok] at h; exact if10 h
        | false => rw [hok] at h; exact if00 h
  have key : ∀ m k t p, k + m = n → Z30 t → P_X8_which_L4 (nI n) c lo hi gh (nI s) r sd sl sh (fun x d t p => K x d t p) (m + 1) (itr (wsF n c lo hi gh r sd sl sh s) k 0) (nI k) 0 t p := by
    intro m
    induction m with
    | zero =>
      intro k t p hk hzt
      unfold P_X8_which_L4
      have e : k = n := by omega
      subst e
      exact br_t (nI_le (Nat.le_refl _) (by omega)) (hK _ _ hzt)
    | succ m ih =>
      intro k t p hk hzt
      unfold P_X8_which_L4
      refine br_f (nI_ge (by omega) (by omega)) ?_
      refine ⟨s + 1, inner (itr (wsF n c lo hi gh r sd sl sh s) k 0) k _ ?_ s 0 t p (by omega) hzt⟩
      · intro t' p' hz'
        rw [nI_1]
        have h := ih (k + 1) t' p' (by omega) hz'
        have e : itr (wsF n c lo hi gh r sd sl sh s) (k + 1) 0 = wsF n c lo hi gh r sd sl sh s k (itr (wsF n c lo hi gh r sd sl sh s) k 0) := rfl
        rw [e] at h
        unfold wsF at h
        cases hal : alW n c lo hi gh r sd sl sh k s with
        | true => rw [hal, if_pos rfl] at h; exact if10 h
        | false =>
          rw [hal, if_neg (by decide)] at h
          refine if00 ?_
          rw [or_zero32]
          exact h
  have h := key n 0 t0 p (by omega) hzt
  rw [nI_0] at h
  exact ⟨n + 1, h⟩
theorem wsF_ag {n : Nat} {c lo hi gh : Int32} {r sd sl sh md ml mh : Nat → Int32} {s : Nat} (h : ∀ i, i < s → sd i = md i ∧ sl i = ml i ∧ sh i = mh i) : wsF n c lo hi gh r sd sl sh s = wsF n c lo hi gh r md ml mh s := by
  have hok : ∀ d i, i < s → okW n c lo hi gh r sd sl sh d i = okW n c lo hi gh r md ml mh d i := by
    intro d i hi'
    obtain ⟨e1, e2, e3⟩ := h i hi'
    unfold okW
    rw [e1, e2, e3]
  have hal : ∀ d k, k ≤ s → alW n c lo hi gh r sd sl sh d k = alW n c lo hi gh r md ml mh d k := by
    intro d k
    induction k with
    | zero => intro _; rfl
    | succ k ih =>
      intro hk
      show (alW n c lo hi gh r sd sl sh d k && _) = (alW n c lo hi gh r md ml mh d k && _)
      rw [ih (by omega), hok d k (by omega)]
  funext d x
  unfold wsF
  rw [hal d s (Nat.le_refl s)]
theorem rt_which {L n q : Nat} (h1 : 1 ≤ n) (hn : n ≤ 8) {xs : Nat → Int32} {x3 c lo hi gh qd la be ri a b d g pr tq tl tb' tr ta tp td tg tn co mc : Int32} {p hs fg qu th tf tu r mt' mp sd sl sh md ml mh : Nat → Int32} {N : (Nat → Int32) → Int32 → Int32 → Int32 → Int32 → Int32 → Int32 → Int32 → Int32 → Int32 → (Nat → Int32) → (Nat → Int32) → (Nat → Int32) → Int32 → (Nat → Int32) → (Nat → Int32) → Prop}
    (hC : CR n q qd la be ri a b d g pr hs fg qu r) (hz : Z30 r) (hzt : Z30 mt') (hR : R_see co sd sl sh mc md ml mh)
    (hN : ∀ p' a1 a2 a3 a4 a5 a6 a7 a8 a9 f1 f2 f3 t' mp', Z30 t' → N p' a1 a2 a3 a4 a5 a6 a7 a8 a9 f1 f2 f3 0 t' mp') :
    P_T629 L xs x3 (nI n) c lo hi gh p qd la be ri a b d g pr hs fg qu tq tl tb' tr ta tp td tg tn th tf tu co sd sl sh (nI n) c lo hi gh mc 0 r mt' md ml mh mp N := by
  unfold P_T629
  obtain ⟨s, hs6, e1, e2, hle⟩ := hR
  subst e1; subst e2
  refine sp_which7 hn hs6 hC (fun i hi' => (hle i hi').2.2.2) ?_
  intro p' a1 a2 a3 a4 a5 a6 a7 a8 a9 f1 f2 f3
  refine sp_which8 h1 hn hs6 hC.2.2.1 hC.2.2.2.1 hz hzt (fun i hi' => ?_) ?_
  · obtain ⟨e1, e2, e3, ⟨v, hv, ev⟩, w, hw, ew⟩ := hle i hi'
    exact ⟨⟨v, hv, e1.symm.trans ev⟩, w, hw, e2.symm.trans ew⟩
  · intro t' p'' hz'
    rw [wsF_ag (md := md) (ml := ml) (mh := mh) (fun i hi' => ⟨(hle i hi').1, (hle i hi').2.1, (hle i hi').2.2.1⟩)]
    exact eqN (hN _ _ _ _ _ _ _ _ _ _ _ _ _ _ _ hz')
