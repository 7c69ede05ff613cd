/-! ===== pure rows: the reference prints its rows; the class prints a queue that stays ===== -/
theorem sp_printLines {n q k : Nat} (hn : n ≤ 8) (hk : k ≤ 9) {dd c lo hi gh : Int32} {p r : Nat → Int32} (hq : q ≤ 8) (h21 : r 21 = nI q) {K : Int32 → (Nat → Int32) → (Nat → Int32) → Prop}
    (hK : ∀ p', K (nI (prLs n c lo hi gh dd k r).1) p' (prLs n c lo hi gh dd k r).2) : P_X8_printLines (nI k) (nI n) c lo hi gh dd p r K := by
  unfold P_X8_printLines
  have key : ∀ m done q p r, done + m = k → q ≤ 8 → r 21 = nI q → (∀ p', K (nI (done + (prLs n c lo hi gh dd m r).1)) p' (prLs n c lo hi gh dd m r).2) → P_X8_printLines_L2 (nI n) c lo hi gh dd (nI k) (fun x p v => K x p v) (m + 1) (nI done) p r := by
    intro m
    induction m with
    | zero =>
      intro done q p r hd hq h21 hKK
      unfold P_X8_printLines_L2
      have e : done = k := by omega
      subst e
      exact br_t (nI_le (Nat.le_refl _) (by omega)) (hKK p)
    | succ m ih =>
      intro done q p r hd hq h21 hKK
      unfold P_X8_printLines_L2
      refine br_f (nI_ge (by omega) (by omega)) ?_
      rw [tn21, tn24, tn13]
      by_cases hq0 : q = 0
      · subst hq0
        refine br_t (by rw [h21]; decide) ?_
        have e : prLs n c lo hi gh dd (m + 1) r = (0, r) := by
          show (if r 21 ≤ 0 then (0, r) else _) = _
          rw [if_pos (by rw [h21]; decide)]
        rw [e] at hKK
        exact hKK p
      · obtain ⟨q', rfl⟩ : ∃ q', q = q' + 1 := ⟨q - 1, by omega⟩
        have hn21 : ¬ r 21 ≤ 0 := by rw [h21, ← nI_0]; exact nI_ge (by omega) (by omega)
        refine br_f hn21 ?_
        have hcl : (r 21).toNatClampNeg - 1 = q' := by rw [h21, nI_clamp (by omega)]; omega
        have go : (0 < r 24 ∨ r 13 = 0) → P_X8_takeLine r (fun r1 v => P_X8_printOn r1 (nI n) c lo hi gh dd p v (fun p4 v4 => ((r1 = (0 : Int32) → P_X8_printLines_L2 (nI n) c lo hi gh dd (nI k) (fun x p v => K x p v) (m + 1) (nI done + 1) p4 (upd v4 24 (v4 24 - (0 : Int32)))) ∧ (¬ r1 = (0 : Int32) → P_X8_printLines_L2 (nI n) c lo hi gh dd (nI k) (fun x p v => K x p v) (m + 1) (nI done + 1) p4 (upd v4 24 (v4 24 - (1 : Int32))))))) := by
          intro hgo
          refine sp_takeLine (by omega) h21 (sp_printOn2 hn ?_)
          intro p4
          rw [nI_1]
          have hL : prLs n c lo hi gh dd (m + 1) r = ((prLs n c lo hi gh dd m (upd (prR n c lo hi gh dd (r 13) (tkM q' r)) 24 (prR n c lo hi gh dd (r 13) (tkM q' r) 24 - (if r 13 = 0 then 0 else 1)))).1 + 1, (prLs n c lo hi gh dd m (upd (prR n c lo hi gh dd (r 13) (tkM q' r)) 24 (prR n c lo hi gh dd (r 13) (tkM q' r) 24 - (if r 13 = 0 then 0 else 1)))).2) := by
            show (if r 21 ≤ 0 then (0, r) else if 0 < r 24 ∨ r 13 = 0 then _ else (0, r)) = _
            rw [if_neg hn21, if_pos hgo, hcl]
          rw [hL] at hKK
          have h21' : ∀ x : Int32, upd (prR n c lo hi gh dd (r 13) (tkM q' r)) 24 x 21 = nI q' := by
            intro x
            rw [upd_at, if_neg (by omega), prR_fr hn c lo hi gh dd _ _ 21 (by omega) (by omega), tkM_at (by omega), if_pos rfl]
          refine ⟨fun hw => ?_, fun hw => ?_⟩
          · rw [if_pos hw] at hKK
            refine ih (done + 1) q' p4 _ (by omega) (by omega) (h21' _) (fun p5 => ?_)
            have := hKK p5
            rw [show ∀ z : Nat, done + 1 + z = done + (z + 1) from fun z => by omega]
            exact this
          · rw [if_neg hw] at hKK
            refine ih (done + 1) q' p4 _ (by omega) (by omega) (h21' _) (fun p5 => ?_)
            have := hKK p5
            rw [show ∀ z : Nat, done + 1 + z = done + (z + 1) from fun z => by omega]
            exact this
        refine ⟨fun h => go (Or.inl h), fun h => ⟨fun hw => ?_, fun hw => go (Or.inr hw)⟩⟩
        have e : prLs n c lo hi gh dd (m + 1) r = (0, r) := by
          show (if r 21 ≤ 0 then (0, r) else if 0 < r 24 ∨ r 13 = 0 then _ else (0, r)) = _
          rw [if_neg hn21, if_neg (fun z => z.elim h hw)]
        rw [e] at hKK
        exact hKK p
  have h := key k 0 q p r (by omega) hq h21 (fun p' => by rw [Nat.zero_add]; exact hK p')
  rw [nI_0] at h
  exact ⟨k + 1, h⟩
/-- all lines of a row printed -/
def raM (n : Nat) (c lo hi gh dd : Int32) : Nat → (Nat → Int32) → (Nat → Int32)
  | 0, r => r
  | q + 1, r => raM n c lo hi gh dd q (prR n c lo hi gh dd (r 13) (tkM q r))
theorem sp_rightOfAll {n q : Nat} (hn : n ≤ 8) (hq : q ≤ 8) {dd c lo hi gh : Int32} {p r : Nat → Int32} (h21 : r 21 = nI q) {K : Int32 → (Nat → Int32) → (Nat → Int32) → Prop} (hK : ∀ p', K (raM n c lo hi gh dd q r 25 - r 25) (raM n c lo hi gh dd q r) p') : P_X8_rightOfAll (nI n) c lo hi gh dd r p K := by
  unfold P_X8_rightOfAll
  rw [tn25]
  have key : ∀ q p s, q ≤ 8 → s 21 = nI q → (∀ p', K (raM n c lo hi gh dd q s 25 - r 25) (raM n c lo hi gh dd q s) p') → P_X8_rightOfAll_L8 (nI n) c lo hi gh dd (r 25) (fun v p => K (v 25 - r 25) v p) (q + 1) s p := by
    intro q
    induction q with
    | zero =>
      intro p s _ h hKK
      unfold P_X8_rightOfAll_L8
      rw [tn21]
      exact br_t (by rw [h]; decide) (hKK p)
    | succ q ih =>
      intro p s hq8 h hKK
      unfold P_X8_rightOfAll_L8
      rw [tn21]
      refine br_f (by rw [h, ← nI_0]; exact nI_ge (by omega) (by omega)) ?_
      refine sp_takeLine (by omega) h (sp_printOn2 hn ?_)
      intro p4
      refine ih p4 _ (by omega) ?_ hKK
      rw [prR_fr hn c lo hi gh dd _ _ 21 (by omega) (by omega), tkM_at (by omega), if_pos rfl]
  exact ⟨q + 1, key q p r hq h21 hK⟩
theorem sp_printQueue {n q : Nat} (hn : n ≤ 8) {dd c lo hi gh qd la be ri a b d g pr : Int32} {p hs fg qu r : Nat → Int32} (hCR : CR n q qd la be ri a b d g pr hs fg qu r)
    {K : Int32 → (Nat → Int32) → Int32 → Int32 → Int32 → Int32 → Int32 → Int32 → Int32 → (Nat → Int32) → Prop}
    (hK : ∀ p' la' be' a' b' d' g' pr' hs', PR hs' fg la' be' a' b' d' g' pr' (raM n c lo hi gh dd q r) → K (a' - a) p' la' be' a' b' d' g' pr' hs') :
    P_X1_printQueue dd (nI n) c lo hi gh p qd la be a b d g pr hs fg qu K := by
  obtain ⟨hPR, eqd, hq8, e21, hqu, -, -, hz, hFG⟩ := hCR
  unfold P_X1_printQueue
  rw [eqd]
  have key : ∀ m i p la be a' b d g pr hs s, i + m = q → PR hs fg la be a' b d g pr s → (∀ j, j < m → qu (i + j) = s (13 + j)) → (∀ k, n ≤ k → k < 8 → hs k = 0) →
      (∀ p' la' be' a' b' d' g' pr' hs', PR hs' fg la' be' a' b' d' g' pr' (raM n c lo hi gh dd m s) → K (a' - a) p' la' be' a' b' d' g' pr' hs') →
      P_X1_printQueue_L8 (nI n) c lo hi gh (nI q) fg qu dd a (fun p la be a' b d g pr hs => K (a' - a) p la be a' b d g pr hs) (m + 1) (nI i) p la be a' b d g pr hs := by
    intro m
    induction m with
    | zero =>
      intro i p la be a' b d g pr hs s him hP hs1 hz hKK
      unfold P_X1_printQueue_L8
      have e : i = q := by omega
      subst e
      exact br_t (nI_le (Nat.le_refl _) (by omega)) (hKK p la be a' b d g pr hs hP)
    | succ m ih =>
      intro i p la be a' b d g pr hs s him hP hs1 hz hKK
      unfold P_X1_printQueue_L8
      refine br_f (nI_ge (by omega) (by omega)) ⟨vp_in_nI (by omega) (by omega), ?_⟩
      rw [nI_1, nI_clamp (by omega)]
      obtain ⟨-, v, hv, ev⟩ := hqu i (by omega)
      have e13 := hs1 0 (by omega)
      rw [Nat.add_zero, Nat.add_zero] at e13
      rw [ev]
      have hP1 : PR hs fg la be a' b d g pr (tkM m s) := hP.kept (fun k hk hk2 => by
        rw [tkM_at (by omega), if_neg (by omega), if_neg (by omega), if_neg (by omega)])
      refine cr_print hn hv hP1 hFG hz ?_
      intro p2 a2 b2 d2 g2 h2 hPR2 hz2
      refine ih (i + 1) p2 _ _ _ _ _ _ _ h2 _ (by omega) hPR2 ?_ hz2 ?_
      · intro j hj
        rw [prR_fr hn c lo hi gh dd _ _ _ (by omega) (by omega), tkM_at (by omega), if_neg (by omega), if_pos (by omega)]
        rw [show i + 1 + j = i + (j + 1) by omega, hs1 (j + 1) (by omega)]
        congr 1
      · have e : raM n c lo hi gh dd (m + 1) s = raM n c lo hi gh dd m (prR n c lo hi gh dd (nI v) (tkM m s)) := by
          show raM n c lo hi gh dd m (prR n c lo hi gh dd (s 13) (tkM m s)) = _
          rw [← e13, ev]
        rw [e] at hKK
        exact hKK
  have h := key q 0 p la be a b d g pr hs r (by omega) hPR (fun j hj => by rw [Nat.zero_add]; exact (hqu j hj).1) hz hK
  rw [nI_0] at h
  exact ⟨q + 1, h⟩
-- copies
def cp30 (f g : Nat → Int32) : Nat → Int32 := fun k => if k < 30 then f k else g k
theorem sp_copy {f g : Nat → Int32} {K : (Nat → Int32) → Prop} (hK : K (cp30 f g)) : P_X8_copy f g K := by
  unfold P_X8_copy
  refine cnt_itr (P := fun fu i s => P_X8_copy_L2 f (fun v => K v) fu i s) 30 (by omega) (fun k s => upd s k (f k)) g ?_ ?_
  · intro fu
    unfold P_X8_copy_L2
    have e : itr (fun k s => upd s k (f k)) 30 g = cp30 f g := by
      have := itr_inv (F := fun k s => upd s k (f k)) (s0 := g) (fun k (s : Nat → Int32) => ∀ j, s j = if j < k then f j else g j) (fun j => by rw [if_neg (by omega)]) 30 (fun k s hk hs j => by
        rw [upd_at, hs j]
        by_cases h : j = k
        · subst h; rw [if_pos rfl, if_pos (by omega)]
        · rw [if_neg h]
          by_cases h2 : j < k
          · rw [if_pos h2, if_pos (by omega)]
          · rw [if_neg h2, if_neg (by omega)]) 30 (Nat.le_refl _)
      funext j
      exact this j
    rw [e]
    exact br_t (by decide) hK
  · intro fu k s hk _ hp
    unfold P_X8_copy_L2
    refine br_f (by rw [show (30 : Int32) = nI 30 from rfl]; exact nI_ge hk (by omega)) ⟨vp_in_nI (by omega) (by omega), ?_⟩
    rw [nI_1, nI_clamp (by omega)]
    exact hp
theorem va_cpy0 {f g : Nat → Int32} {n k : Nat} (h : k < n) : va_cpy f g 0 0 n k = f k := sb_cpy0 h
theorem CR.copy {n q : Nat} (hn : n ≤ 8) {qd la be ri a b d g pr : Int32} {hs fg qu r hs' fg' qu' r' : Nat → Int32} (h : CR n q qd la be ri a b d g pr hs fg qu r) : CR n q qd la be ri a b d g pr (va_cpy hs hs' 0 0 8) (va_cpy fg fg' 0 0 5) (va_cpy qu qu' 0 0 8) (cp30 r r') := by
  obtain ⟨⟨p1, p2, p3, p4, p5, p6, p7, p8, p9⟩, eqd, hq8, e21, hqu, e24, hri, hz, hF1, hF2⟩ := h
  have c : ∀ k, k < 30 → cp30 r r' k = r k := fun k hk => by unfold cp30; rw [if_pos hk]
  refine ⟨⟨fun k hk => ?_, fun i hi => ?_, ?_, ?_, ?_, ?_, ?_, ?_, ?_⟩, eqd, hq8, ?_, fun i hi => ?_, ?_, hri, fun k h1 h2 => ?_, fun i hi => ?_, fun i hi => ?_⟩
  · rw [va_cpy0 hk, c k (by omega)]; exact p1 k hk
  · rw [va_cpy0 hi, c _ (by omega)]; exact p2 i hi
  · rw [c _ (by omega)]; exact p3
  · rw [c _ (by omega)]; exact p4
  · rw [c _ (by omega)]; exact p5
  · rw [c _ (by omega)]; exact p6
  · rw [c _ (by omega)]; exact p7
  · rw [c _ (by omega)]; exact p8
  · rw [c _ (by omega)]; exact p9
  · rw [c _ (by omega)]; exact e21
  · rw [va_cpy0 (by omega), c _ (by omega)]; exact hqu i hi
  · rw [c _ (by omega)]; exact e24
  · rw [va_cpy0 h2]; exact hz k h1 h2
  · rw [va_cpy0 hi]; exact hF1 i hi
  · rw [va_cpy0 (by omega), va_cpy0 (by omega)]; exact hF2 i hi
/-- nothing beyond a row's end -/
def Z30 (r : Nat → Int32) : Prop := ∀ k, 30 ≤ k → r k = 0
theorem Z30.upd {r : Nat → Int32} (h : Z30 r) {k : Nat} (hk : k < 30) (x : Int32) : Z30 (upd r k x) := fun j hj => by rw [upd_at, if_neg (by omega)]; exact h j hj
theorem Z30.cool {n : Nat} (hn : n ≤ 8) (c : Int32) {r : Nat → Int32} (h : Z30 r) : Z30 (cool n c r) := fun k hk => ((cool_ag hn c (f := r) (g := r) (fun _ _ => rfl)).2.1 k (by omega)).trans (h k hk)
theorem Z30.pr {n : Nat} (hn : n ≤ 8) {c lo hi gh dd w : Int32} {r : Nat → Int32} (h : Z30 r) : Z30 (prR n c lo hi gh dd w r) := fun k hk => (prR_fr hn c lo hi gh dd w r k (by omega) (by omega)).trans (h k hk)
theorem Z30.tk {m : Nat} (hm : m < 8) {r : Nat → Int32} (h : Z30 r) : Z30 (tkM m r) := fun k hk => by
  rw [tkM_at hm, if_neg (by omega), if_neg (by omega), if_neg (by omega)]; exact h k hk
theorem Z30.cp {f r : Nat → Int32} (h : Z30 r) : Z30 (cp30 f r) := fun k hk => by unfold cp30; rw [if_neg (by omega)]; exact h k hk
theorem cp_eq {r t : Nat → Int32} (h : Z30 r) (ht : Z30 t) : cp30 r t = r := by
  funext k
  unfold cp30
  by_cases hk : k < 30
  · rw [if_pos hk]
  · rw [if_neg hk, h k (by omega), ht k (by omega)]
theorem Z30.prLs {n : Nat} (hn : n ≤ 8) {c lo hi gh dd : Int32} : ∀ (k q : Nat) (r : Nat → Int32), q ≤ 8 → r 21 = nI q → Z30 r → Z30 (prLs n c lo hi gh dd k r).2 := by
  intro k
  induction k with
  | zero => intro q r _ _ h; exact h
  | succ k ih =>
    intro q r hq h21 h
    show Z30 (if r 21 ≤ 0 then (0, r) else if 0 < r 24 ∨ r 13 = 0 then _ else (0, r)).2
    by_cases h0 : r 21 ≤ 0
    · rw [if_pos h0]; exact h
    · rw [if_neg h0]
      by_cases h1 : 0 < r 24 ∨ r 13 = 0
      · rw [if_pos h1]
        have hq0 : q ≠ 0 := fun e => h0 (by rw [h21, e]; decide)
        have hcl : (r 21).toNatClampNeg - 1 = q - 1 := by rw [h21, nI_clamp (by omega)]
        rw [hcl]
        refine ih (q - 1) _ (by omega) ?_ (((h.tk (by omega)).pr hn).upd (by omega) _)
        rw [upd_at, if_neg (by omega), prR_fr hn c lo hi gh dd _ _ 21 (by omega) (by omega), tkM_at (by omega), if_pos rfl]
      · rw [if_neg h1]; exact h
theorem Z30.raM {n : Nat} (hn : n ≤ 8) {c lo hi gh dd : Int32} : ∀ (q : Nat) (r : Nat → Int32), q ≤ 8 → Z30 r → Z30 (raM n c lo hi gh dd q r) := by
  intro q
  induction q with
  | zero => intro r _ h; exact h
  | succ q ih => intro r hq h; exact ih _ (by omega) ((h.tk (by omega)).pr hn)
