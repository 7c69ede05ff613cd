/-! ===== pure rows: times, speeds ===== -/
theorem pf_at {n : Nat} {fg p : Nat → Int32} {w la be : Int32} : ∀ d, d < n → itr (fpF fg w la be) n p d = if bz w d then fg (nr w la be d) else 0 := by
  exact itr_inv (F := fpF fg w la be) (s0 := p) (fun m (s : Nat → Int32) => ∀ d, d < m → s d = if bz w d then fg (nr w la be d) else 0) (fun d hd => absurd hd (by omega)) n (fun m s hm hs d hd => by
    unfold fpF
    by_cases h : d = m
    · subst h
      cases hb : bz w d with
      | true => rw [if_pos rfl, if_pos rfl, upd_at, if_pos rfl]
      | false => rw [if_neg (by decide), if_neg (by decide), upd_at, if_pos rfl]
    · have e := hs d (by omega)
      cases hb : bz w m with
      | true => rw [if_pos rfl, upd_at, if_neg h, upd_at, if_neg h]; exact e
      | false => rw [if_neg (by decide), upd_at, if_neg h]; exact e) n (Nat.le_refl n)
theorem pl_at {n : Nat} {r p : Nat → Int32} {w la be : Int32} : ∀ d, d < n → itr (lpF r w la be) n p d = if bz w d then r (8 + nr w la be d) else -9 := by
  exact itr_inv (F := lpF r w la be) (s0 := p) (fun m (s : Nat → Int32) => ∀ d, d < m → s d = if bz w d then r (8 + nr w la be d) else -9) (fun d hd => absurd hd (by omega)) n (fun m s hm hs d hd => by
    unfold lpF
    by_cases h : d = m
    · subst h
      cases hb : bz w d with
      | true => rw [if_pos rfl, if_pos rfl, upd_at, if_pos rfl]
      | false => rw [if_neg (by decide), if_neg (by decide), upd_at, if_pos rfl]
    · have e := hs d (by omega)
      cases hb : bz w m with
      | true => rw [if_pos rfl, upd_at, if_neg h]; exact e
      | false => rw [if_neg (by decide), upd_at, if_neg h]; exact e) n (Nat.le_refl n)
/-- strobes: the time so far, how many are taken -/
def tI (pw P : Nat) (h : Nat → Bool) (d : Nat) (s : Nat × Nat) : Nat × Nat := if h d then (if s.2 % pw = 0 then s.1 + P else s.1, s.2 + 1) else s
def tO (n pw : Nat) (h : Nat → Nat → Bool) : Nat → Nat × Nat → Nat × Nat
  | 0, s => s
  | j + 1, s => tO n pw h j (itr (tI pw j (h j)) n s)
def tm (n pw : Nat) (h : Nat → Nat → Bool) : Nat := (tO n pw h 10 (0, 0)).1
theorem tI_le {n pw P : Nat} {h : Nat → Bool} {s : Nat × Nat} : ∀ k, k ≤ n → (itr (tI pw P h) k s).2 ≤ s.2 + k ∧ (itr (tI pw P h) k s).1 ≤ s.1 + k * P := by
  intro k
  induction k with
  | zero => intro _; exact ⟨Nat.le_refl _, by rw [Nat.zero_mul]; exact Nat.le_refl _⟩
  | succ k ih =>
    intro hk
    obtain ⟨i1, i2⟩ := ih (by omega)
    show (tI pw P h k (itr (tI pw P h) k s)).2 ≤ _ ∧ (tI pw P h k (itr (tI pw P h) k s)).1 ≤ _
    generalize itr (tI pw P h) k s = u at i1 i2 ⊢
    have e : (k + 1) * P = k * P + P := Nat.succ_mul k P
    unfold tI
    rw [e]
    cases h k with
    | true =>
      rw [if_pos rfl]
      dsimp only
      refine ⟨by omega, ?_⟩
      by_cases hm : u.2 % pw = 0
      · rw [if_pos hm]; omega
      · rw [if_neg hm]; omega
    | false => rw [if_neg (by decide)]; omega
def roomOf (pw T : Nat) : Nat := (pw - T % pw) % pw
theorem room_0 {pw T : Nat} (h0 : 1 ≤ pw) : roomOf pw T = 0 ↔ T % pw = 0 := by
  unfold roomOf
  have h := Nat.mod_lt T (show 0 < pw by omega)
  constructor
  · intro e
    rcases Nat.eq_zero_or_pos (T % pw) with q | q
    · exact q
    · rw [Nat.mod_eq_of_lt (by omega)] at e
      omega
  · intro e
    rw [e, Nat.sub_zero, Nat.mod_self]
theorem room_s {pw T : Nat} (h0 : 1 ≤ pw) : (T % pw = 0 → roomOf pw (T + 1) = pw - 1) ∧ (¬ T % pw = 0 → roomOf pw (T + 1) = roomOf pw T - 1) := by
  unfold roomOf
  have h := Nat.mod_lt T (show 0 < pw by omega)
  have hs : (T + 1) % pw = if T % pw + 1 = pw then 0 else T % pw + 1 := by
    rw [Nat.add_mod]
    by_cases h1 : pw = 1
    · subst h1; rw [Nat.mod_one, Nat.mod_one]; rfl
    · rw [Nat.mod_eq_of_lt (show 1 < pw by omega)]
      by_cases h2 : T % pw + 1 = pw
      · rw [if_pos h2, h2, Nat.mod_self]
      · rw [if_neg h2, Nat.mod_eq_of_lt (by omega)]
  rw [hs]
  refine ⟨fun e => ?_, fun e => ?_⟩
  · rw [e]
    by_cases h2 : 0 + 1 = pw
    · rw [if_pos h2, ← h2]
    · rw [if_neg h2, Nat.mod_eq_of_lt (by omega)]
  · rw [Nat.mod_eq_of_lt (show pw - T % pw < pw by omega)]
    by_cases h2 : T % pw + 1 = pw
    · rw [if_pos h2, Nat.sub_zero, Nat.mod_self]; omega
    · rw [if_neg h2, Nat.mod_eq_of_lt (by omega)]; omega
theorem room_le {pw T : Nat} (h0 : 1 ≤ pw) : roomOf pw T < pw := Nat.mod_lt _ (by omega)
theorem sp_timeOf {n pw : Nat} (hn : n ≤ 8) (hp1 : 1 ≤ pw) (hp8 : pw ≤ 8) {w : Int32} {p : Nat → Int32} {h : Nat → Nat → Bool} (hp : ∀ d P, d < n → P ≤ 9 → (h P d = true ↔ bz w d = true ∧ p d = nI P)) {K : Int32 → Prop} (hK : K (nI (tm n pw h))) : P_X1_timeOf w (nI n) (nI pw) p K := by
  unfold P_X1_timeOf
  have inner : ∀ (P : Nat) (C : Int32 → Int32 → Prop) (s : Nat × Nat), P ≤ 9 → s.2 ≤ 80 → (C (nI (itr (tI pw P (h P)) n s).1) (nI (roomOf pw (itr (tI pw P (h P)) n s).2))) → ∀ m k, k + m = n → P_X1_timeOf_L16 (nI n) (nI pw) p w (nI P) C (m + 1) (nI (itr (tI pw P (h P)) k s).1) (nI (roomOf pw (itr (tI pw P (h P)) k s).2)) (nI k) := by
    intro P C s hP hs hC m
    induction m with
    | zero =>
      intro k hk
      unfold P_X1_timeOf_L16
      have e : k = n := by omega
      subst e
      exact br_t (nI_le (Nat.le_refl _) (by omega)) hC
    | succ m ih =>
      intro k hk
      unfold P_X1_timeOf_L16
      refine br_f (nI_ge (by omega) (by omega)) (sp_bit ?_)
      have hh := ih (k + 1) (by omega)
      have hle := (tI_le (n := n) (pw := pw) (P := P) (h := h P) (s := s) k (by omega)).1
      have estep : itr (tI pw P (h P)) (k + 1) s = tI pw P (h P) k (itr (tI pw P (h P)) k s) := rfl
      rw [estep] at hh
      generalize itr (tI pw P (h P)) k s = u at hle hh ⊢
      unfold tI at hh
      rw [nI_1]
      have hr := room_le (pw := pw) (T := u.2) hp1
      cases hb : h P k with
      | true =>
        obtain ⟨b1, b2⟩ := (hp k P (by omega) hP).mp hb
        rw [hb, if_pos rfl] at hh
        dsimp only at hh
        refine br_t' (tb_1 b1) ⟨vp_in_nI (by omega) (by omega), ?_⟩
        rw [nI_clamp (by omega)]
        refine br_t' b2 ?_
        by_cases hm : u.2 % pw = 0
        · have hr0 := (room_0 (T := u.2) hp1).mpr hm
          refine br_t' (by rw [hr0]; rfl) ?_
          rw [if_pos hm, (room_s hp1).1 hm] at hh
          rw [nI_add]
          have e1 : nI pw + (-1) = nI (pw - 1) := by
            have := pk_m1 (pw - 1)
            rw [Nat.sub_add_cancel hp1] at this
            exact this
          rw [e1]
          exact hh
        · have hr0 : ¬ roomOf pw u.2 = 0 := fun z => hm ((room_0 hp1).mp z)
          refine br_f' (nI_ne0 (by omega) (by omega)) ?_
          rw [if_neg hm, (room_s hp1).2 hm] at hh
          have e1 : nI (roomOf pw u.2) + (-1) = nI (roomOf pw u.2 - 1) := by
            have := pk_m1 (roomOf pw u.2 - 1)
            rw [Nat.sub_add_cancel (by omega)] at this
            exact this
          rw [e1]
          exact hh
      | false =>
        rw [hb, if_neg (by decide)] at hh
        refine ⟨fun _ => hh, fun z => ⟨vp_in_nI (by omega) (by omega), ?_⟩⟩
        rw [nI_clamp (by omega)]
        refine br_f' (fun y => ?_) hh
        have hbz : bz w k = true := by
          unfold bz
          exact decide_eq_true z
        have := (hp k P (by omega) hP).mpr ⟨hbz, y⟩
        rw [hb] at this
        cases this
  have key : ∀ j s, s.2 + 8 * j ≤ 80 → j ≤ 10 → K (nI (tO n pw h j s).1) → P_X1_timeOf_L8 (nI n) (nI pw) p w (fun x => K x) (j + 1) (nI s.1) (nI (roomOf pw s.2)) (nI j + (-1)) := by
    intro j
    induction j with
    | zero =>
      intro s hs hj hK
      unfold P_X1_timeOf_L8
      exact br_t (by decide) hK
    | succ j ih =>
      intro s hs hj hK
      unfold P_X1_timeOf_L8
      rw [pk_m1]
      refine br_f (nI_pos (by omega)) ⟨n + 1, ?_⟩
      have hle := (tI_le (n := n) (pw := pw) (P := j) (h := h j) (s := s) n (Nat.le_refl n)).1
      exact inner j (fun x5 x6 => P_X1_timeOf_L8 (nI n) (nI pw) p w (fun x => K x) (j + 1) x5 x6 (nI j + (-1))) s (by omega) (by omega) (ih (itr (tI pw j (h j)) n s) (by omega) (by omega) hK) n 0 (by omega)
  have h10 := key 10 (0, 0) (by decide) (by omega) hK
  have e0 : nI (roomOf pw (0, 0).2) = 0 := by
    have : roomOf pw 0 = 0 := (room_0 hp1).mpr (Nat.zero_mod _)
    show nI (roomOf pw 0) = 0
    rw [this]; rfl
  rw [e0] at h10
  exact ⟨11, h10⟩
theorem sp_timeNow {n pw : Nat} (hn : n ≤ 8) (hp1 : 1 ≤ pw) (hp8 : pw ≤ 8) {p : Nat → Int32} {h : Nat → Nat → Bool} (hp : ∀ d P, d < n → P ≤ 9 → (h P d = true ↔ p d = nI P)) {K : Int32 → Prop} (hK : K (nI (tm n pw h))) : P_X8_timeNow (nI n) (nI pw) p K := by
  unfold P_X8_timeNow
  have inner : ∀ (P : Nat) (C : Int32 → Int32 → Prop) (s : Nat × Nat), P ≤ 9 → s.2 ≤ 80 → (C (nI (itr (tI pw P (h P)) n s).1) (nI (itr (tI pw P (h P)) n s).2)) → ∀ m k, k + m = n → P_X8_timeNow_L14 (nI n) (nI pw) p (nI P) C (m + 1) (nI (itr (tI pw P (h P)) k s).1) (nI (itr (tI pw P (h P)) k s).2) (nI k) := by
    intro P C s hP hs hC m
    induction m with
    | zero =>
      intro k hk
      unfold P_X8_timeNow_L14
      have e : k = n := by omega
      subst e
      exact br_t (nI_le (Nat.le_refl _) (by omega)) hC
    | succ m ih =>
      intro k hk
      unfold P_X8_timeNow_L14
      refine br_f (nI_ge (by omega) (by omega)) ⟨vp_in_nI (by omega) (by omega), ?_⟩
      have hh := ih (k + 1) (by omega)
      have hle := (tI_le (n := n) (pw := pw) (P := P) (h := h P) (s := s) k (by omega)).1
      have estep : itr (tI pw P (h P)) (k + 1) s = tI pw P (h P) k (itr (tI pw P (h P)) k s) := rfl
      rw [estep] at hh
      generalize itr (tI pw P (h P)) k s = u at hle hh ⊢
      unfold tI at hh
      rw [nI_1, nI_1, nI_clamp (by omega : k < 2 ^ 31), rem_nI (by omega) (by omega) (by omega)]
      cases hb : h P k with
      | true =>
        have b2 := (hp k P (by omega) hP).mp hb
        rw [hb, if_pos rfl] at hh
        dsimp only at hh
        refine br_t' b2 ⟨nI_ne0 (by omega) (by omega), ?_⟩
        have hml := Nat.mod_lt u.2 (show 0 < pw by omega)
        by_cases hm : u.2 % pw = 0
        · rw [if_pos hm] at hh
          refine br_t' (by rw [hm]; rfl) ?_
          rw [nI_add]
          exact hh
        · rw [if_neg hm] at hh
          refine br_f' (nI_ne0 (by omega) (by omega)) ?_
          rw [← nI_0, nI_add]
          exact hh
      | false =>
        rw [hb, if_neg (by decide)] at hh
        refine br_f' (fun y => ?_) hh
        have := (hp k P (by omega) hP).mpr y
        rw [hb] at this
        cases this
  have key : ∀ j s, s.2 + 8 * j ≤ 80 → j ≤ 10 → K (nI (tO n pw h j s).1) → P_X8_timeNow_L7 (nI n) (nI pw) p (fun x => K x) (j + 1) (nI s.1) (nI s.2) (nI j + (-1)) := by
    intro j
    induction j with
    | zero =>
      intro s hs hj hK
      unfold P_X8_timeNow_L7
      exact br_t (by decide) hK
    | succ j ih =>
      intro s hs hj hK
      unfold P_X8_timeNow_L7
      rw [pk_m1]
      refine br_f (nI_pos (by omega)) ⟨n + 1, ?_⟩
      have hle := (tI_le (n := n) (pw := pw) (P := j) (h := h j) (s := s) n (Nat.le_refl n)).1
      exact inner j (fun x5 x6 => P_X8_timeNow_L7 (nI n) (nI pw) p (fun x => K x) (j + 1) x5 x6 (nI j + (-1))) s (by omega) (by omega) (ih (itr (tI pw j (h j)) n s) (by omega) (by omega) hK) n 0 (by omega)
  exact ⟨11, key 10 (0, 0) (by decide) (by omega) hK⟩
theorem tm_le {n pw : Nat} (hn : n ≤ 8) (h : Nat → Nat → Bool) : tm n pw h ≤ 720 := by
  have key : ∀ j s, j ≤ 10 → (tO n pw h j s).1 ≤ s.1 + 72 * j := by
    intro j
    induction j with
    | zero => intro s _; exact Nat.le_refl _
    | succ j ih =>
      intro s hj
      have h1 := ih (itr (tI pw j (h j)) n s) (by omega)
      have h2 := (tI_le (n := n) (pw := pw) (P := j) (h := h j) (s := s) n (Nat.le_refl n)).2
      have h3 : n * j ≤ 8 * 9 := Nat.mul_le_mul hn (by omega)
      show (tO n pw h j (itr (tI pw j (h j)) n s)).1 ≤ _
      omega
  have := key 10 (0, 0) (by omega)
  unfold tm
  omega
