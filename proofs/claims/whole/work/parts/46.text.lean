/-! ===== pure rows: the text's first fault, by the class ===== -/
def ok (f : Nat → Nat) (p : Nat) : Prop :=
  (p = 0 → f p = 72) ∧ (p = 1 → 49 ≤ f p ∧ f p ≤ 56) ∧ (p = 2 → 49 ≤ f p ∧ f p ≤ 52) ∧ (p = 3 → 49 ≤ f p ∧ f p ≤ 56)
  ∧ (4 ≤ p → p < 18 → 48 ≤ f p ∧ f p ≤ 57) ∧ (14 ≤ p → p < 18 → f p ≤ f (p - 1))
  ∧ (18 ≤ p → (p - 18) % (f 1 - 47) = 0 → f p = 108 ∧ (p - 18) / (f 1 - 47) < 8) ∧ (18 ≤ p → ¬ (p - 18) % (f 1 - 47) = 0 → f p = 111 ∨ f p = 45)
theorem rng {a lo hi : Nat} (ha : a < 2 ^ 31) (hlo : lo < 2 ^ 31) (hhi : hi < 2 ^ 31) {K1 K0 : Prop} (h1 : lo ≤ a → a ≤ hi → K1) (h0 : ¬ (lo ≤ a ∧ a ≤ hi) → K0) : (nI a < nI lo → K0) ∧ (¬ nI a < nI lo → ((nI hi < nI a → K0) ∧ (¬ nI hi < nI a → K1))) := by
  refine ⟨fun z => h0 ?_, fun z => ⟨fun y => h0 ?_, fun y => h1 ?_ ?_⟩⟩
  · have := (nI_ltI ha hlo).mp z; omega
  · have := (nI_ltI hhi ha).mp y; omega
  · rw [nI_ltI ha hlo] at z; omega
  · rw [nI_ltI hhi ha] at y; omega
theorem sp_lineLength {f : Nat → Nat} {le : Nat → Int32} (e1 : le 1 = nI (f 1)) (h1 : 49 ≤ f 1) (h2 : f 1 ≤ 56) {K : Int32 → Prop} (hK : K (nI (f 1 - 47))) : P_X6_lineLength le K := by
  unfold P_X6_lineLength P_X6_figureAt
  refine ⟨vp_lit (by decide), ?_⟩
  rw [show (Int32.toNatClampNeg (1 : Int32)) = 1 from rfl, e1, show (48 : Int32) = nI 48 from rfl, pk_sub (by omega)]
  have e : (if (1 : Int32) < nI (f 1 - 48) then nI (f 1 - 48) else 1) = nI (f 1 - 48) := by
    by_cases h : f 1 - 48 = 1
    · rw [h]; rfl
    · have hh : (1 : Int32) < nI (f 1 - 48) := nI_lt (a := 1) (by omega) (by omega)
      rw [if_pos hh]
  dsimp only
  rw [e, nI_1, show f 1 - 48 + 1 = f 1 - 47 by omega]
  exact hK
theorem ok_2 {f : Nat → Nat} (h : ok f 1) : 49 ≤ f 1 ∧ f 1 ≤ 56 := h.2.1 rfl
theorem sp_fits {f : Nat → Nat} {le : Nat → Int32} {t p : Nat} (ht : t ≤ 99) (hle : ∀ i, i < t → le i = nI (f i) ∧ f i < 256) (hp : p < t) (hok : ∀ i, i < p → ok f i) {K : Int32 → Prop} (h1 : ok f p → K 1) (h0 : ¬ ok f p → K 0) : P_X6_fits (nI p) le K := by
  unfold P_X6_fits
  refine ⟨vp_in_nI (by omega) (by omega), ?_⟩
  obtain ⟨ep, hp2⟩ := hle p hp
  rw [nI_clamp (by omega), ep]
  refine ⟨fun z => ?_, fun z => ?_, fun z => ?_, fun z => ?_, fun z => ?_⟩
  · rw [nI_toInt (by omega)] at z
    have hp4 : 4 ≤ p := by omega
    by_cases h18 : 18 ≤ p
    · refine br_t (nI_le (a := 18) h18 (by omega)) ?_
      obtain ⟨l1, l2⟩ := ok_2 (hok 1 (by omega))
      have e1 := (hle 1 (by omega)).1
      refine sp_lineLength e1 l1 l2 ⟨nI_ne0 (by omega) (by omega), ?_⟩
      rw [show (18 : Int32) = nI 18 from rfl, pk_sub h18, rem_nI (by omega) (by omega) (by omega)]
      have hm : (p - 18) % (f 1 - 47) < 2 ^ 31 := Nat.lt_of_le_of_lt (Nat.mod_le _ _) (by omega)
      have hd : (p - 18) / (f 1 - 47) < 2 ^ 31 := Nat.lt_of_le_of_lt (Nat.div_le_self _ _) (by omega)
      refine ⟨fun y => ?_, fun y => ?_⟩
      · have hm0 : ¬ (p - 18) % (f 1 - 47) = 0 := fun x => y (by rw [x]; rfl)
        refine ⟨fun x => h1 ?_, fun x => ⟨fun w => h0 (fun o => ?_), fun w => h1 ?_⟩⟩
        · have := nI_lit (b := 111) (by omega) (by omega) x
          exact ⟨by omega, by omega, by omega, by omega, by omega, by omega, fun _ q => absurd q hm0, fun _ _ => Or.inl this⟩
        · rcases o.2.2.2.2.2.2.2 h18 hm0 with q | q
          · exact x (by rw [q]; rfl)
          · exact w (by rw [q]; rfl)
        · have := nI_lit (b := 45) (by omega) (by omega) w
          exact ⟨by omega, by omega, by omega, by omega, by omega, by omega, fun _ q => absurd q hm0, fun _ _ => Or.inr this⟩
      · have hm0 : (p - 18) % (f 1 - 47) = 0 := nI_lit (b := 0) hm (by omega) y
        refine ⟨fun x => h0 (fun o => x (by rw [(o.2.2.2.2.2.2.1 h18 hm0).1]; rfl)), fun x => ?_⟩
        have x := nI_lit (b := 108) (by omega) (by omega) x
        refine sp_lineLength e1 l1 l2 ⟨nI_ne0 (by omega) (by omega), ?_⟩
        rw [pk_div (by omega) (by omega) (by omega)]
        refine ⟨fun w => h0 (fun o => ?_), fun w => h1 ?_⟩
        · exact absurd w (nI_ge (b := 8) (o.2.2.2.2.2.2.1 h18 hm0).2 (by omega))
        · refine ⟨by omega, by omega, by omega, by omega, by omega, by omega, fun _ _ => ⟨x, ?_⟩, fun _ q => absurd hm0 q⟩
          rcases Nat.lt_or_ge ((p - 18) / (f 1 - 47)) 8 with q | q
          · exact q
          · exact absurd (nI_le (a := 8) q hd) w
    · refine br_f (nI_ge (b := 18) (by omega) (by omega)) ?_
      have bad : ¬ (48 ≤ f p ∧ f p ≤ 57) → ¬ ok f p := fun h o => h (o.2.2.2.2.1 hp4 (by omega))
      have good : 48 ≤ f p → f p ≤ 57 → (14 ≤ p → f p ≤ f (p - 1)) → ok f p := fun a b c => ⟨by omega, by omega, by omega, by omega, fun _ _ => ⟨a, b⟩, fun q _ => c q, fun q => absurd q h18, fun q => absurd q h18⟩
      refine rng (a := f p) (lo := 48) (hi := 57) (by omega) (by omega) (by omega) (fun a b => ?_) (fun a => if00 (h0 (bad a)))
      refine if10 ⟨fun x => h1 (good a b (fun q => absurd x (nI_ge (b := p) (a := 13) (by omega) (by omega)))), fun x => ?_⟩
      have hx : 14 ≤ p := by
        rcases Nat.lt_or_ge p 14 with q | q
        · exact absurd (nI_le (b := 13) (by omega) (by omega)) x
        · exact q
      obtain ⟨ep1, hp12⟩ := hle (p - 1) (by omega)
      rw [show nI p - 1 = nI (p - 1) by rw [show p = (p - 1) + 1 by omega, nI_pred]; rfl, nI_clamp (by omega : p - 1 < 2 ^ 31), ep1]
      refine ⟨vp_in_nI (by omega) (by omega), fun w => h0 (fun o => ?_), fun w => h1 (good a b (fun _ => ?_))⟩
      · have := (nI_ltI (by omega) (by omega)).mp w
        have := o.2.2.2.2.2.1 hx (by omega)
        omega
      · rw [nI_ltI (by omega) (by omega)] at w
        omega
  · have hp0 : p = 0 := nI_lit (b := 0) (by omega) (by omega) z
    refine ⟨fun w => h0 (fun o => w (by rw [o.1 hp0]; rfl)), fun w => h1 ?_⟩
    have := nI_lit (b := 72) (by omega) (by omega) w
    exact ⟨fun _ => this, by omega, by omega, by omega, by omega, by omega, fun q => absurd q (by omega), fun q => absurd q (by omega)⟩
  · have hp0 : p = 1 := nI_lit (b := 1) (by omega) (by omega) z
    exact rng (a := f p) (lo := 49) (hi := 56) (by omega) (by omega) (by omega) (fun a b => h1 ⟨by omega, fun _ => ⟨a, b⟩, by omega, by omega, by omega, by omega, fun q => absurd q (by omega), fun q => absurd q (by omega)⟩) (fun a => h0 (fun o => a (o.2.1 hp0)))
  · have hp0 : p = 2 := nI_lit (b := 2) (by omega) (by omega) z
    exact rng (a := f p) (lo := 49) (hi := 52) (by omega) (by omega) (by omega) (fun a b => h1 ⟨by omega, by omega, fun _ => ⟨a, b⟩, by omega, by omega, by omega, fun q => absurd q (by omega), fun q => absurd q (by omega)⟩) (fun a => h0 (fun o => a (o.2.2.1 hp0)))
  · have hp0 : p = 3 := nI_lit (b := 3) (by omega) (by omega) z
    exact rng (a := f p) (lo := 49) (hi := 56) (by omega) (by omega) (by omega) (fun a b => h1 ⟨by omega, by omega, by omega, fun _ => ⟨a, b⟩, by omega, by omega, fun q => absurd q (by omega), fun q => absurd q (by omega)⟩) (fun a => h0 (fun o => a (o.2.2.2.1 hp0)))
/-- the first fault -/
theorem ff_cases (f : Nat → Nat) (t : Nat) : (∃ p, p < t ∧ ¬ ok f p ∧ ∀ i, i < p → ok f i) ∨ ∀ i, i < t → ok f i := by
  by_cases h : ∃ p, p < t ∧ ¬ ok f p
  · obtain ⟨p, ⟨h1, h2⟩, h3⟩ := pk_least (fun p => p < t ∧ ¬ ok f p) h
    refine Or.inl ⟨p, h1, h2, fun i hi' => Classical.byContradiction (fun q => h3 i hi' ⟨by omega, q⟩)⟩
  · exact Or.inr (fun i hi' => Classical.byContradiction (fun q => h ⟨i, hi', q⟩))
theorem sp_ffBad {f : Nat → Nat} {le : Nat → Int32} {t p : Nat} (ht : t ≤ 99) (hle : ∀ i, i < t → le i = nI (f i) ∧ f i < 256) (hp : p < t) (hok : ∀ i, i < p → ok f i) (hbad : ¬ ok f p) {K : Int32 → Prop} (hK : K (nI p)) : P_X6_firstFault (nI t) le K := by
  unfold P_X6_firstFault
  refine ⟨p + 1, ?_⟩
  rw [← nI_0]
  have key : ∀ (C1 : Int32 → Prop) (C2 : Prop) m k, C1 (nI p) → k + m = p → P_X6_firstFault_L2 (nI t) le C1 C2 (m + 1) (nI k) := by
    intro C1 C2 m
    induction m with
    | zero =>
      intro k hC hk
      unfold P_X6_firstFault_L2
      have e : k = p := by omega
      subst e
      exact br_f (nI_ge hp (by omega)) (sp_fits ht hle hp hok (fun o => absurd o hbad) (fun _ => if00' hC))
    | succ m ih =>
      intro k hC hk
      unfold P_X6_firstFault_L2
      refine br_f (nI_ge (by omega) (by omega)) (sp_fits ht hle (by omega) (fun i hi' => hok i (by omega)) (fun o => if10' ?_) (fun o => absurd (hok k (by omega)) o))
      rw [nI_1]
      exact ih (k + 1) hC (by omega)
  exact key _ _ p 0 hK (by omega)
theorem sp_ffGood {f : Nat → Nat} {le : Nat → Int32} {t : Nat} (ht : t ≤ 99) (hle : ∀ i, i < t → le i = nI (f i) ∧ f i < 256) (hok : ∀ i, i < t → ok f i) {K : Int32 → Prop}
    (hK0 : (t < 18 ∨ ¬ (t - 18) % (f 1 - 47) = 0) → K (nI t)) (hK1 : 18 ≤ t → (t - 18) % (f 1 - 47) = 0 → K (-9)) : P_X6_firstFault (nI t) le K := by
  unfold P_X6_firstFault
  refine ⟨t + 1, ?_⟩
  rw [← nI_0]
  have key : ∀ (C1 : Int32 → Prop) (C2 : Prop) m k, C2 → k + m = t → P_X6_firstFault_L2 (nI t) le C1 C2 (m + 1) (nI k) := by
    intro C1 C2 m
    induction m with
    | zero =>
      intro k hC hk
      unfold P_X6_firstFault_L2
      exact br_t (nI_le (by omega) (by omega)) hC
    | succ m ih =>
      intro k hC hk
      unfold P_X6_firstFault_L2
      refine br_f (nI_ge (by omega) (by omega)) (sp_fits ht hle (by omega) (fun i hi' => hok i (by omega)) (fun o => if10' ?_) (fun o => absurd (hok k (by omega)) o))
      rw [nI_1]
      exact ih (k + 1) hC (by omega)
  refine key _ _ t 0 ?_ (by omega)
  rw [nI_0]
  by_cases h18 : t < 18
  · exact br_t (nI_lt (b := 18) h18 (by omega)) (if00 (hK0 (Or.inl h18)))
  · refine br_f (nI_nlt (b := 18) (by omega) (by omega)) ?_
    obtain ⟨l1, l2⟩ := ok_2 (hok 1 (by omega))
    refine sp_lineLength (hle 1 (by omega)).1 l1 l2 ⟨nI_ne0 (by omega) (by omega), ?_⟩
    rw [show (18 : Int32) = nI 18 from rfl, pk_sub (by omega), rem_nI (by omega) (by omega) (by omega)]
    have hm : (t - 18) % (f 1 - 47) < 2 ^ 31 := Nat.lt_of_le_of_lt (Nat.mod_le _ _) (by omega)
    refine ⟨fun y => if00 (hK0 (Or.inr (fun x => y (by rw [x]; rfl)))), fun y => if10 (hK1 (by omega) (nI_lit (b := 0) hm (by omega) y))⟩
