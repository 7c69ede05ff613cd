/-! ===== pure rows: acts and how they are remembered ===== -/
theorem va_up_at {α : Type} (f : Nat → α) (k : Nat) (v : α) (j : Nat) : va_up f k v j = if j = k then v else f j := rfl
theorem CR.row {n q : Nat} {qd la be ri a b d g pr : Int32} {hs fg qu r r' : Nat → Int32} (h : CR n q qd la be ri a b d g pr hs fg qu r) (hr : ∀ k, k < 30 → r' k = r k) : CR n q qd la be ri a b d g pr hs fg qu r' := by
  obtain ⟨h1, eqd, hq8, e21, hqu, e24, hri, hz, hF⟩ := h
  exact ⟨h1.kept (fun k hk _ => hr k hk), eqd, hq8, (hr 21 (by omega)).trans e21, fun i hi => ⟨(hqu i hi).1.trans (hr _ (by omega)).symm, (hqu i hi).2⟩, (hr 24 (by omega)).trans e24, hri, hz, hF⟩
/-- the class's own copy of a State tells the same row -/
theorem CR.cpy {n q : Nat} {qd la be ri a b d g pr : Int32} {hs fg qu r hs' fg' qu' : Nat → Int32} (hn : n ≤ 8) (h : CR n q qd la be ri a b d g pr hs fg qu r) : CR n q qd la be ri a b d g pr (va_cpy hs hs' 0 0 8) (va_cpy fg fg' 0 0 5) (va_cpy qu qu' 0 0 8) r :=
  (CR.copy (r' := r) hn h).row (fun k hk => by unfold cp30; rw [if_pos hk])
theorem rem_nI {a d : Nat} (ha : a < 2 ^ 31) (h0 : 0 < d) (hd : d < 2 ^ 31) : nI a - nI a / nI d * nI d = nI (a % d) := pk_rem ha h0 hd
def rmF (f a : Nat) : Nat := if a < 14 then f else (f + 1) % 14
def rmA (a : Nat) : Nat := if a < 14 then a + 1 else 14
theorem sp_remember {f a : Nat} (hf : f < 14) (ha : a ≤ 14) {qd la be ri aa b d g pr : Int32} {hs fg qu : Nat → Int32} {H F Q I : Nat → Nat → Int32} {K : Int32 → Int32 → (Nat → Nat → Int32) → (Nat → Nat → Int32) → (Nat → Nat → Int32) → (Nat → Nat → Int32) → Prop}
    (hK : K (nI (rmF f a)) (nI (rmA a)) (va_up H ((f + a) % 14) (va_cpy hs (H ((f + a) % 14)) 0 0 8)) (va_up F ((f + a) % 14) (va_cpy fg (F ((f + a) % 14)) 0 0 5)) (va_up Q ((f + a) % 14) (va_cpy qu (Q ((f + a) % 14)) 0 0 8)) (va_up I ((f + a) % 14) (g_i9 qd la be ri aa b d g pr))) :
    P_X0_remember (nI f) (nI a) qd la be ri aa b d g pr hs fg qu H F Q I K := by
  unfold P_X0_remember
  rw [show (14 : Int32) = nI 14 from rfl]
  by_cases h14 : a < 14
  · refine br_t (nI_lt h14 (by omega)) ?_
    rw [nI_add, rem_nI (by omega) (by omega) (by omega)]
    refine ⟨vp_in_nI (by omega) (by omega), fun k hk ek => ?_⟩
    have e := (nI_eq (by omega) (by omega)).mp ek
    subst e
    unfold P_X5_copyFrom
    rw [nI_1]
    unfold rmF rmA at hK
    rw [if_pos h14, if_pos h14] at hK
    exact hK
  · have e14 : a = 14 := by omega
    subst e14
    refine br_f (nI_nlt (Nat.le_refl _) (by omega)) ?_
    rw [nI_1, rem_nI (by omega) (by omega) (by omega), show (13 : Int32) = nI 13 from rfl, nI_add, rem_nI (by omega) (by omega) (by omega)]
    refine ⟨vp_in_nI (by omega) (by omega), fun k hk ek => ?_⟩
    have e := (nI_eq (by omega) (by omega)).mp ek
    have e2 : k = (f + 14) % 14 := by omega
    subst e2
    unfold P_X5_copyFrom
    unfold rmF rmA at hK
    rw [if_neg (by omega), if_neg (by omega)] at hK
    exact hK
/-- a row laid into the diary -/
def ntD (x : Nat) (r di : Nat → Int32) : Nat → Int32 := fun i => if 30 * x ≤ i ∧ i < 30 * x + 30 then r (i - 30 * x) else di i
theorem sp_note {x a : Nat} (hx : x < 14) (ha : a ≤ 14) {r di : Nat → Int32} {K : Int32 → Int32 → (Nat → Int32) → Prop} (hK : K (nI (rmA a)) (nI ((x + 1) % 14)) (ntD x r di)) : P_X8_note (nI a) (nI x) r di K := by
  unfold P_X8_note
  rw [show (14 : Int32) = nI 14 from rfl, nI_1, rem_nI (by omega) (by omega) (by omega)]
  refine cnt_itr (P := fun fu i s => P_X8_note_L2 (nI x) r (fun v => ((nI 14 ≤ nI a → K (nI 14) (nI ((x + 1) % 14)) v) ∧ (¬ nI 14 ≤ nI a → K (nI a + 1) (nI ((x + 1) % 14)) v))) fu i s) 30 (by omega) (fun k s => upd s (30 * x + k) (r k)) di ?_ ?_
  · intro fu
    unfold P_X8_note_L2
    refine br_t (by decide) ?_
    have e : itr (fun k s => upd s (30 * x + k) (r k)) 30 di = ntD x r di := by
      have := itr_inv (F := fun k s => upd s (30 * x + k) (r k)) (s0 := di) (fun k (s : Nat → Int32) => ∀ i, s i = if 30 * x ≤ i ∧ i < 30 * x + k then r (i - 30 * x) else di i) (fun i => by rw [if_neg (by omega)]) 30 (fun k s hk hs i => by
        rw [upd_at, hs i]
        by_cases h : i = 30 * x + k
        · subst h; rw [if_pos rfl, if_pos (by omega)]; congr 1; omega
        · rw [if_neg h]
          by_cases h2 : 30 * x ≤ i ∧ i < 30 * x + k
          · rw [if_pos h2, if_pos (by omega)]
          · rw [if_neg h2, if_neg (by omega)]) 30 (Nat.le_refl _)
      funext i
      exact this i
    rw [e]
    unfold rmA at hK
    by_cases h14 : a < 14
    · rw [if_pos h14] at hK
      exact br_f (nI_ge h14 (by omega)) (by rw [nI_1]; exact hK)
    · rw [if_neg h14] at hK
      exact br_t (nI_le (by omega) (by omega)) hK
  · intro fu k s hk _ hp
    unfold P_X8_note_L2
    refine br_f (by rw [show (30 : Int32) = nI 30 from rfl]; exact nI_ge hk (by omega)) ⟨vp_in_nI (by omega) (by omega), ?_⟩
    rw [show (30 : Int32) = nI 30 from rfl, pk_mul, nI_add, nI_1 k, nI_clamp (by omega : k < 2 ^ 31), nI_clamp (by omega : 30 * x + k < 2 ^ 31)]
    exact ⟨vp_in_nI (by omega) (by omega), hp⟩
def EL (n : Nat) (H F Q I : Nat → Nat → Int32) (k : Nat) (r : Nat → Int32) : Prop := ∃ q, CR n q (I k 3) (I k 4) (I k 5) (I k 6) (I k 7) (I k 8) (I k 9) (I k 10) (I k 11) (H k) (F k) (Q k) r
def R_acts (n : Nat) (fi co : Int32) (H F Q I : Nat → Nat → Int32) (ma mx : Int32) (di : Nat → Int32) : Prop :=
  ∃ a f x, a ≤ 14 ∧ f < 14 ∧ x < 14 ∧ fi = nI f ∧ co = nI a ∧ ma = nI a ∧ mx = nI x ∧ ∀ j, j < a → EL n H F Q I ((f + j) % 14) (fun i => di (30 * ((x + 14 - a + j) % 14) + i))
theorem EL.up_ne {n : Nat} {H F Q I : Nat → Nat → Int32} {k j : Nat} {r : Nat → Int32} (h : EL n H F Q I j r) (hne : ¬ j = k) (h1 h2 h3 h4 : Nat → Int32) : EL n (va_up H k h1) (va_up F k h2) (va_up Q k h3) (va_up I k h4) j r := by
  obtain ⟨q, h⟩ := h
  refine ⟨q, ?_⟩
  simp only [va_up_at, if_neg hne]
  exact h
theorem EL.row {n : Nat} {H F Q I : Nat → Nat → Int32} {j : Nat} {r r' : Nat → Int32} (h : EL n H F Q I j r) (hr : ∀ k, k < 30 → r' k = r k) : EL n H F Q I j r' := by
  obtain ⟨q, h⟩ := h
  exact ⟨q, h.row hr⟩
theorem acts_push {n q a f x : Nat} (hn : n ≤ 8) (ha : a ≤ 14) (hf : f < 14) (hx : x < 14) {qd la be ri aa b d g pr : Int32} {hs fg qu r di : Nat → Int32} {H F Q I : Nat → Nat → Int32}
    (hR : ∀ j, j < a → EL n H F Q I ((f + j) % 14) (fun i => di (30 * ((x + 14 - a + j) % 14) + i))) (hC : CR n q qd la be ri aa b d g pr hs fg qu r) :
    R_acts n (nI (rmF f a)) (nI (rmA a)) (va_up H ((f + a) % 14) (va_cpy hs (H ((f + a) % 14)) 0 0 8)) (va_up F ((f + a) % 14) (va_cpy fg (F ((f + a) % 14)) 0 0 5)) (va_up Q ((f + a) % 14) (va_cpy qu (Q ((f + a) % 14)) 0 0 8)) (va_up I ((f + a) % 14) (g_i9 qd la be ri aa b d g pr)) (nI (rmA a)) (nI ((x + 1) % 14)) (ntD x r di) := by
  have old : ∀ (jn jo : Nat), jo < a → (f + jo) % 14 = (rmF f a + jn) % 14 → ¬ (f + jo) % 14 = (f + a) % 14 → (x + 14 - a + jo) % 14 = ((x + 1) % 14 + 14 - rmA a + jn) % 14 → ¬ (x + 14 - a + jo) % 14 = x → EL n (va_up H ((f + a) % 14) (va_cpy hs (H ((f + a) % 14)) 0 0 8)) (va_up F ((f + a) % 14) (va_cpy fg (F ((f + a) % 14)) 0 0 5)) (va_up Q ((f + a) % 14) (va_cpy qu (Q ((f + a) % 14)) 0 0 8)) (va_up I ((f + a) % 14) (g_i9 qd la be ri aa b d g pr)) ((rmF f a + jn) % 14) (fun i => ntD x r di (30 * (((x + 1) % 14 + 14 - rmA a + jn) % 14) + i)) := by
    intro jn jo h1 h2 h3 h4 h5
    rw [← h2, ← h4]
    refine EL.row ((hR jo h1).up_ne h3 _ _ _ _) (fun k hk => ?_)
    unfold ntD
    rw [if_neg (by omega)]
  have new : ∀ jn : Nat, (rmF f a + jn) % 14 = (f + a) % 14 → ((x + 1) % 14 + 14 - rmA a + jn) % 14 = x → EL n (va_up H ((f + a) % 14) (va_cpy hs (H ((f + a) % 14)) 0 0 8)) (va_up F ((f + a) % 14) (va_cpy fg (F ((f + a) % 14)) 0 0 5)) (va_up Q ((f + a) % 14) (va_cpy qu (Q ((f + a) % 14)) 0 0 8)) (va_up I ((f + a) % 14) (g_i9 qd la be ri aa b d g pr)) ((rmF f a + jn) % 14) (fun i => ntD x r di (30 * (((x + 1) % 14 + 14 - rmA a + jn) % 14) + i)) := by
    intro jn h1 h2
    rw [h1, h2]
    refine ⟨q, ?_⟩
    simp only [va_up_at, if_true]
    refine CR.row (r := r) (CR.cpy hn hC) (fun k hk => ?_)
    unfold ntD
    rw [if_pos (by omega)]
    congr 1
    omega
  by_cases h14 : a < 14
  · have e1 : rmF f a = f := if_pos h14
    have e2 : rmA a = a + 1 := if_pos h14
    refine ⟨rmA a, rmF f a, (x + 1) % 14, by omega, by omega, by omega, rfl, rfl, rfl, rfl, fun j hj => ?_⟩
    by_cases hja : j < a
    · exact old j j hja (by rw [e1]) (by omega) (by omega) (by omega)
    · exact new j (by rw [e1]; congr 1; omega) (by omega)
  · have e1 : rmF f a = (f + 1) % 14 := if_neg h14
    have e2 : rmA a = 14 := if_neg h14
    have ea : a = 14 := by omega
    refine ⟨rmA a, rmF f a, (x + 1) % 14, by omega, by omega, by omega, rfl, rfl, rfl, rfl, fun j hj => ?_⟩
    by_cases hja : j < 13
    · exact old j (j + 1) (by omega) (by omega) (by omega) (by omega) (by omega)
    · exact new j (by omega) (by omega)
-- undone
theorem sp_takeBack {f a : Nat} (hf : f < 14) (ha : a < 14) {qd la be ri aa b d g pr : Int32} {hs fg qu : Nat → Int32} {H F Q I : Nat → Nat → Int32} {K : Int32 → Int32 → Int32 → Int32 → Int32 → Int32 → Int32 → Int32 → Int32 → Int32 → Int32 → (Nat → Int32) → (Nat → Int32) → (Nat → Int32) → Prop}
    (hK : K 1 (nI a) (I ((f + a) % 14) 3) (I ((f + a) % 14) 4) (I ((f + a) % 14) 5) (I ((f + a) % 14) 6) (I ((f + a) % 14) 7) (I ((f + a) % 14) 8) (I ((f + a) % 14) 9) (I ((f + a) % 14) 10) (I ((f + a) % 14) 11) (va_cpy (H ((f + a) % 14)) hs 0 0 8) (va_cpy (F ((f + a) % 14)) fg 0 0 5) (va_cpy (Q ((f + a) % 14)) qu 0 0 8)) :
    P_X0_takeBack (nI f) (nI (a + 1)) qd la be ri aa b d g pr hs fg qu H F Q I K := by
  unfold P_X0_takeBack
  refine br_t (by rw [← nI_0]; exact nI_lt (by omega) (by omega)) ?_
  rw [nI_pred, show (14 : Int32) = nI 14 from rfl, nI_add, rem_nI (by omega) (by omega) (by omega)]
  refine ⟨vp_in_nI (by omega) (by omega), fun k hk ek => ?_⟩
  have e := (nI_eq (by omega) (by omega)).mp ek
  subst e
  unfold P_X5_copyFrom
  exact hK
theorem sp_undo8 {a x : Nat} (hx : x < 14) (ha : a < 14) {r di : Nat → Int32} {K : Int32 → Int32 → Int32 → (Nat → Int32) → Prop} (hK : K (nI a) (nI a) (nI ((x + 13) % 14)) (cp30 (fun i => di (30 * ((x + 13) % 14) + i)) r)) : P_X8_undo (nI (a + 1)) (nI x) r di K := by
  unfold P_X8_undo
  refine ⟨fun _ => ?_, fun q => absurd q (nI_ne0 (by omega) (by omega))⟩
  rw [nI_pred, show (14 : Int32) = nI 14 from rfl, nI_add, show x + 14 = (x + 13) + 1 by omega, nI_pred, rem_nI (by omega) (by omega) (by omega)]
  generalize hy : (x + 13) % 14 = y at hK ⊢
  have hy14 : y < 14 := by omega
  refine cnt_itr (P := fun fu i s => P_X8_undo_L38 (nI y) di (fun v => K (nI a) (nI a) (nI y) v) fu i s) 30 (by omega) (fun k s => upd s k (di (30 * y + k))) r ?_ ?_
  · intro fu
    unfold P_X8_undo_L38
    refine br_t (by decide) ?_
    have e : itr (fun k s => upd s k (di (30 * y + k))) 30 r = cp30 (fun i => di (30 * y + i)) r := by
      have := itr_inv (F := fun k s => upd s k (di (30 * y + k))) (s0 := r) (fun k (s : Nat → Int32) => ∀ i, s i = if i < k then di (30 * y + i) else r i) (fun i => by rw [if_neg (by omega)]) 30 (fun k s hk hs i => by
        rw [upd_at, hs i]
        by_cases h : i = k
        · subst h; rw [if_pos rfl, if_pos (by omega)]
        · rw [if_neg h]
          by_cases h2 : i < k
          · rw [if_pos h2, if_pos (by omega)]
          · rw [if_neg h2, if_neg (by omega)]) 30 (Nat.le_refl _)
      funext i
      exact this i
    rw [e]
    exact hK
  · intro fu k s hk _ hp
    unfold P_X8_undo_L38
    refine br_f (by rw [show (30 : Int32) = nI 30 from rfl]; exact nI_ge hk (by omega)) ?_
    rw [show (30 : Int32) = nI 30 from rfl, pk_mul, nI_add, nI_1, nI_clamp (by omega : k < 2 ^ 31), nI_clamp (by omega : 30 * y + k < 2 ^ 31)]
    exact ⟨vp_in_nI (by omega) (by omega), vp_in_nI (by omega) (by omega), hp⟩
