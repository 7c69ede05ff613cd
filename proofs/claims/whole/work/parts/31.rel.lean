/-! ===== pure rows: a line printed on both sides is one line ===== -/
theorem itr_rel {σ τ : Type} {F : Nat → σ → σ} {G : Nat → τ → τ} (R : σ → τ → Prop) {s : σ} {t : τ} (h0 : R s t) (n : Nat) (hs : ∀ k s t, k < n → R s t → R (F k s) (G k t)) : R (itr F n s) (itr G n t) := by
  have key : ∀ k, k ≤ n → R (itr F k s) (itr G k t) := by
    intro k
    induction k with
    | zero => intro _; exact h0
    | succ k ih => intro hk; exact hs k _ _ (by omega) (ih (by omega))
  exact key n (Nat.le_refl n)
theorem sl_k : ∀ n, n < 32 → ((nI n &&& 31).toBitVec.smod 32).toNat = n := by decide +kernel
theorem bm1_k : ∀ i, i < 32 → (-1 : Int32).toBitVec.getLsbD i = true := by decide +kernel
theorem bz_bit (w : Int32) {k : Nat} (hk : k < 32) : bz w k = w.toBitVec.getLsbD k := by
  have h2 : (w >>> (nI k &&& 31)).toBitVec.getLsbD 0 = w.toBitVec.getLsbD k := by
    rw [Int32.toBitVec_shiftRight]
    show (w.toBitVec.sshiftRight ((nI k &&& 31).toBitVec.smod 32).toNat).getLsbD 0 = _
    rw [sl_k k hk, BitVec.getLsbD_sshiftRight, BitVec.msb_eq_getLsbD_last]
    simp [hk]
  have h1 : (tb w k).toBitVec.getLsbD 0 = w.toBitVec.getLsbD k := by
    unfold tb
    rw [Int32.toBitVec_and, BitVec.getLsbD_and, h2, show (1 : Int32).toBitVec.getLsbD 0 = true by decide, Bool.and_true]
  have h4 : (tb w k).toBitVec.getLsbD 0 = bz w k := by
    rw [tb_val w k]
    cases bz w k <;> decide
  rw [← h4]
  exact h1
theorem bz_andnot (w d : Int32) {k : Nat} (hk : k < 32) : bz (w &&& (d ^^^ (-1 : Int32))) k = (bz w k && !(bz d k)) := by
  rw [bz_bit _ hk, bz_bit w hk, bz_bit d hk, Int32.toBitVec_and, BitVec.getLsbD_and, Int32.toBitVec_xor, BitVec.getLsbD_xor, bm1_k k hk]
  simp
theorem upd_at (f : Nat → Int32) (k : Nat) (x : Int32) (j : Nat) : upd f k x j = if j = k then x else f j := rfl
def ag8 (f g : Nat → Int32) : Prop := ∀ d, d < 8 → f d = g d
theorem cool_ag {n : Nat} (hn : n ≤ 8) (c : Int32) {f g : Nat → Int32} (h : ag8 f g) : ag8 (cool n c f) (cool n c g) ∧ (∀ d, 8 ≤ d → cool n c g d = g d) ∧ (∀ d, n ≤ d → cool n c f d = f d) := by
  refine ⟨itr_rel (fun a b => ag8 a b) h n ?_, itr_inv (fun _ (s : Nat → Int32) => ∀ d, 8 ≤ d → s d = g d) (fun _ _ => rfl) n ?_ n (Nat.le_refl n), itr_inv (fun _ (s : Nat → Int32) => ∀ d, n ≤ d → s d = f d) (fun _ _ => rfl) n ?_ n (Nat.le_refl n)⟩
  · intro k s t hk hst d hd
    simp only [coF, upd_at]
    rw [hst k (by omega), hst d hd]
  · intro k s hk hs d hd
    simp only [coF, upd_at]
    rw [if_neg (by omega), hs d hd]
  · intro k s hk hs d hd
    simp only [coF, upd_at]
    rw [if_neg (by omega), hs d hd]
theorem hF_ag {n : Nat} (hn : n ≤ 8) {p p' : Nat → Int32} {ac ac' : Nat → Bool} (ha : ∀ k, k < n → ac k = ac' k) (hp : ∀ k, k < n → ac k = true → p k = p' k) {f g : Nat → Int32} (h : ag8 f g) : ag8 (heat n p ac f) (heat n p' ac' g) ∧ (∀ d, 8 ≤ d → heat n p' ac' g d = g d) ∧ (∀ d, n ≤ d → heat n p ac f d = f d) := by
  unfold heat
  have h1 : ag8 (itr (hF n p ac) n f) (itr (hF n p' ac') n g) := by
    refine itr_rel (fun a b => ag8 a b) h n ?_
    intro k s t hk hst d hd
    unfold hF
    rw [← ha k hk]
    cases hac : ac k with
    | false => simp only [Bool.false_eq_true, if_false]; exact hst d hd
    | true =>
      have e := hp k hk hac
      simp only [if_true]
      rw [e]
      have e1 : ag8 (upd s k (s k + 10 * p' k)) (upd t k (t k + 10 * p' k)) := by
        intro j hj
        simp only [upd_at]
        rw [hst k (by omega), hst j hj]
      have e2 : ag8 (if k = 0 then upd s k (s k + 10 * p' k) else upd (upd s k (s k + 10 * p' k)) (k - 1) (upd s k (s k + 10 * p' k) (k - 1) + 2 * p' k)) (if k = 0 then upd t k (t k + 10 * p' k) else upd (upd t k (t k + 10 * p' k)) (k - 1) (upd t k (t k + 10 * p' k) (k - 1) + 2 * p' k)) := by
        by_cases h0 : k = 0
        · rw [if_pos h0, if_pos h0]; exact e1
        · rw [if_neg h0, if_neg h0]
          intro j hj
          have a1 := e1 (k - 1) (by omega)
          have a2 := e1 j hj
          show (if j = k - 1 then upd s k (s k + 10 * p' k) (k - 1) + 2 * p' k else upd s k (s k + 10 * p' k) j) = (if j = k - 1 then upd t k (t k + 10 * p' k) (k - 1) + 2 * p' k else upd t k (t k + 10 * p' k) j)
          rw [a1, a2]
      generalize (if k = 0 then upd s k (s k + 10 * p' k) else upd (upd s k (s k + 10 * p' k)) (k - 1) (upd s k (s k + 10 * p' k) (k - 1) + 2 * p' k)) = s2 at e2 ⊢
      generalize (if k = 0 then upd t k (t k + 10 * p' k) else upd (upd t k (t k + 10 * p' k)) (k - 1) (upd t k (t k + 10 * p' k) (k - 1) + 2 * p' k)) = t2 at e2 ⊢
      by_cases h1 : n ≤ k + 1
      · rw [if_pos h1, if_pos h1]; exact e2 d hd
      · rw [if_neg h1, if_neg h1, upd_at, upd_at, e2 (k + 1) (by omega), e2 d hd]
  have fr : ∀ (q : Nat → Int32) (az : Nat → Bool) (u : Nat → Int32) (d : Nat), n ≤ d → itr (hF n q az) n u d = u d := by
    intro q az u d hd
    refine itr_inv (fun _ (s : Nat → Int32) => s d = u d) rfl n ?_ n (Nat.le_refl n)
    intro k s hk hs
    unfold hF
    cases az k with
    | false => simp only [Bool.false_eq_true, if_false]; exact hs
    | true =>
      simp only [if_true]
      have e1 : (if k = 0 then upd s k (s k + 10 * q k) else upd (upd s k (s k + 10 * q k)) (k - 1) (upd s k (s k + 10 * q k) (k - 1) + 2 * q k)) d = s d := by
        by_cases h0 : k = 0
        · rw [if_pos h0, upd_at, if_neg (by omega)]
        · rw [if_neg h0, upd_at, if_neg (by omega), upd_at, if_neg (by omega)]
      by_cases h1 : n ≤ k + 1
      · rw [if_pos h1, e1, hs]
      · rw [if_neg h1, upd_at, if_neg (by omega), e1, hs]
  have fc : ∀ (u : Nat → Int32) (d : Nat), n ≤ d → itr clF n u d = u d := by
    intro u d hd
    refine itr_inv (fun _ (s : Nat → Int32) => s d = u d) rfl n ?_ n (Nat.le_refl n)
    intro k s hk hs
    unfold clF
    rw [upd_at, if_neg (by omega), hs]
  refine ⟨itr_rel (fun a b => ag8 a b) h1 n ?_, ?_, ?_⟩
  · intro k s t hk hst d hd
    unfold clF
    rw [upd_at, upd_at, hst k (by omega), hst d hd]
  · intro d hd
    rw [fc _ d (by omega), fr _ _ _ d (by omega)]
  · intro d hd
    rw [fc _ d hd, fr _ _ _ d hd]
theorem marks_ag {n : Nat} (hn : n ≤ 8) (lo hi gh w : Int32) {f g : Nat → Int32} (h : ag8 f g) (s : M4) : marks n lo hi gh w f s = marks n lo hi gh w g s := by
  unfold marks
  refine itr_rel (fun a b => a = b) rfl n ?_
  intro k a b hk hab
  subst hab
  unfold cmF
  rw [h k (by omega)]
theorem plsC_at {n : Nat} {fg : Nat → Int32} {w la be : Int32} {p : Nat → Int32} {d : Nat} (hd : d < n) : plsC n fg w la be p d = if bz w d then fg (nr w la be d) else 0 := by
  have key := itr_inv (F := fpF fg w la be) (s0 := p) (fun k s => ∀ d, d < k → s d = if bz w d then fg (nr w la be d) else 0) (fun d hd => absurd hd (Nat.not_lt_zero d)) n (fun k s hk hs d hd => by
    unfold fpF
    by_cases he : d = k
    · subst he
      cases bz w d <;> simp [upd_at]
    · have hs2 := hs d (by omega)
      cases bz w k <;> simp only [Bool.false_eq_true, if_false, if_true, upd_at, if_neg he] <;> exact hs2) n (Nat.le_refl n)
  exact key d hd
theorem plsM_at {n : Nat} {r : Nat → Int32} {w : Int32} {p : Nat → Int32} {d : Nat} (hd : d < n) : plsM n r w p d = if bz w d then r (8 + nr w (r 22) (r 23) d) else -9 := by
  have key := itr_inv (F := lpF r w (r 22) (r 23)) (s0 := p) (fun k s => ∀ d, d < k → s d = if bz w d then r (8 + nr w (r 22) (r 23) d) else -9) (fun d hd => absurd hd (Nat.not_lt_zero d)) n (fun k s hk hs d hd => by
    unfold lpF
    by_cases he : d = k
    · subst he
      cases bz w d <;> simp [upd_at]
    · have hs2 := hs d (by omega)
      cases bz w k <;> simp only [Bool.false_eq_true, if_false, if_true, upd_at, if_neg he] <;> exact hs2) n (Nat.le_refl n)
  exact key d hd
/-- what a line sees and changes, on both sides -/
def PR (hs fg : Nat → Int32) (la be a b d g pr : Int32) (r : Nat → Int32) : Prop := ag8 hs r ∧ (∀ i, i < 5 → fg i = r (8 + i)) ∧ r 22 = la ∧ r 23 = be ∧ r 25 = a ∧ r 26 = b ∧ r 27 = d ∧ r 28 = g ∧ r 29 = pr
theorem pr_rel {n v : Nat} (hn : n ≤ 8) {c lo hi gh dd la be a b d g pr : Int32} {hs fg p p' r h2 p2 : Nat → Int32} {m2 : M4} (hPR : PR hs fg la be a b d g pr r) (hf9 : ∀ i, i < 5 → ¬ fg i = -9)
    (ep : p2 = plsC n fg (nI v) la be p) (eh : h2 = heat n p2 (bz (nI v &&& (dd ^^^ (-1 : Int32)))) (cool n c hs)) (em : m2 = marks n lo hi gh (nI v) h2 (a, b, d, g)) :
    PR h2 fg (nI v) la m2.1 m2.2.1 m2.2.2.1 m2.2.2.2 (pr + 1) (prM n c lo hi gh dd (nI v) p' r) ∧ (∀ k, 8 ≤ k → (k < 22 ∨ k = 24 ∨ 30 ≤ k) → prM n c lo hi gh dd (nI v) p' r k = r k) ∧ (∀ k, n ≤ k → h2 k = hs k) := by
  obtain ⟨h1, hfg, e22, e23, e25, e26, e27, e28, e29⟩ := hPR
  obtain ⟨c1, c2, c3⟩ := cool_ag hn c h1
  have hr1 : ∀ k, 8 ≤ k → cool n c r k = r k := c2
  have hac : ∀ k, k < n → bz (nI v &&& (dd ^^^ (-1 : Int32))) k = (decide (¬ plsM n (cool n c r) (nI v) p' k = -9) && !(bz dd k)) := by
    intro k hk
    rw [bz_andnot _ _ (by omega), plsM_at hk, hr1 22 (by omega), hr1 23 (by omega)]
    have hle := nr_le (nI v) (r 22) (r 23) k
    rw [hr1 _ (by omega), ← hfg _ (by omega)]
    cases bz (nI v) k with
    | false => simp
    | true =>
      have := hf9 (nr (nI v) (r 22) (r 23) k) (by omega)
      simp [this]
  have hpp : ∀ k, k < n → bz (nI v &&& (dd ^^^ (-1 : Int32))) k = true → p2 k = plsM n (cool n c r) (nI v) p' k := by
    intro k hk hb
    rw [bz_andnot _ _ (by omega)] at hb
    have hb1 : bz (nI v) k = true := by
      cases hz : bz (nI v) k with
      | true => rfl
      | false => rw [hz] at hb; simp at hb
    rw [ep, plsC_at hk, plsM_at hk, hr1 22 (by omega), hr1 23 (by omega), e22, e23]
    have hle := nr_le (nI v) la be k
    rw [hr1 _ (by omega), hfg _ (by omega), hb1, if_pos rfl, if_pos rfl]
  obtain ⟨k1, k2, k3⟩ := hF_ag hn hac hpp c1
  rw [← eh] at k1 k3
  have em2 : m2 = marks n lo hi gh (nI v) (heat n (plsM n (cool n c r) (nI v) p') (fun k => decide (¬ plsM n (cool n c r) (nI v) p' k = -9) && !(bz dd k)) (cool n c r)) (r 25, r 26, r 27, r 28) := by
    rw [em, marks_ag hn lo hi gh (nI v) k1, e25, e26, e27, e28]
  have q : ∀ k, 8 ≤ k → heat n (plsM n (cool n c r) (nI v) p') (fun k => decide (¬ plsM n (cool n c r) (nI v) p' k = -9) && !(bz dd k)) (cool n c r) k = r k := fun k hk => (k2 k hk).trans (hr1 k hk)
  have hrow : ∀ k, prM n c lo hi gh dd (nI v) p' r k = if k = 29 then r 29 + 1 else if k = 22 then nI v else if k = 23 then r 22 else if k = 25 then m2.1 else if k = 26 then m2.2.1 else if k = 27 then m2.2.2.1 else if k = 28 then m2.2.2.2 else heat n (plsM n (cool n c r) (nI v) p') (fun k => decide (¬ plsM n (cool n c r) (nI v) p' k = -9) && !(bz dd k)) (cool n c r) k := by
    intro k
    unfold prM
    try dsimp only
    rw [q 25 (by omega), q 26 (by omega), q 27 (by omega), q 28 (by omega), ← em2]
    simp only [upd_at, setM]
    have q29 := q 29 (by omega)
    have q22 := q 22 (by omega)
    simp only [show ¬ (29 : Nat) = 22 by omega, show ¬ (29 : Nat) = 23 by omega, show ¬ (29 : Nat) = 25 by omega, show ¬ (29 : Nat) = 26 by omega, show ¬ (29 : Nat) = 27 by omega, show ¬ (29 : Nat) = 28 by omega, show ¬ (22 : Nat) = 25 by omega, show ¬ (22 : Nat) = 26 by omega, show ¬ (22 : Nat) = 27 by omega, show ¬ (22 : Nat) = 28 by omega, if_false]
    rw [q29, q22]
  refine ⟨⟨?_, ?_, ?_, ?_, ?_, ?_, ?_, ?_, ?_⟩, ?_, ?_⟩
  · intro j hj
    rw [hrow j, if_neg (by omega), if_neg (by omega), if_neg (by omega), if_neg (by omega), if_neg (by omega), if_neg (by omega), if_neg (by omega)]
    exact k1 j hj
  · intro i hi
    rw [hrow (8 + i), if_neg (by omega), if_neg (by omega), if_neg (by omega), if_neg (by omega), if_neg (by omega), if_neg (by omega), if_neg (by omega), q _ (by omega)]
    exact hfg i hi
  · rw [hrow]; simp
  · rw [hrow]; simp [e22]
  · rw [hrow]; simp
  · rw [hrow]; simp
  · rw [hrow]; simp
  · rw [hrow]; simp
  · rw [hrow]; simp [e29]
  · intro k hk hk2
    rw [hrow k, if_neg (by omega), if_neg (by omega), if_neg (by omega), if_neg (by omega), if_neg (by omega), if_neg (by omega), if_neg (by omega), q k hk]
  · intro k hk
    rw [k3 k hk, c3 k hk]
