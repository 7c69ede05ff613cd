/-! ===== pure rows: the text read by the reference ===== -/
theorem br_t' {c A B : Prop} (h : c) (a : A) : (¬ c → B) ∧ (c → A) := ⟨fun q => absurd h q, fun _ => a⟩
theorem br_f' {c A B : Prop} (h : ¬ c) (b : B) : (¬ c → B) ∧ (c → A) := ⟨fun _ => b, fun q => absurd q h⟩
/-- so many dots of a line told in letters -/
def lv (f : Nat → Nat) (b d : Nat) : Int32 := itr (fun d x => if f (b + 1 + d) = 111 then x ||| ((1 : Int32) <<< (nI d &&& (31 : Int32))) else x) d 0
def RH (f : Nat → Nat) (k : Nat) (rd rc rp : Int32) (rl rt : Nat → Int32) : Prop :=
  (2 ≤ k → rd = nI (f 1 - 48)) ∧ (3 ≤ k → rc = nI (f 2 - 48)) ∧ (4 ≤ k → rp = nI (f 3 - 48))
  ∧ (∀ i, i < 3 → (5 + 3 * i = k → rl i = nI (f (4 + 3 * i) - 48)) ∧ (6 + 3 * i = k → rl i = nI (10 * (f (4 + 3 * i) - 48) + (f (5 + 3 * i) - 48))) ∧ (7 + 3 * i ≤ k → rl i = nI (10 * (10 * (f (4 + 3 * i) - 48) + (f (5 + 3 * i) - 48)) + (f (6 + 3 * i) - 48))))
  ∧ (∀ j, j < 5 → 14 + j ≤ k → rt j = nI (f (13 + j) - 48))
def RLn (f : Nat → Nat) (n k : Nat) (rm la : Int32) (ri : Nat → Int32) : Prop :=
  ∃ q ρ, k = 18 + (n + 1) * q + ρ ∧ ρ ≤ n ∧ q ≤ 8 ∧ (0 < ρ → q < 8) ∧ rm = nI q ∧ (ρ = 0 → la = -1) ∧ (0 < ρ → la = nI (ρ - 1) ∧ ri q = lv f (18 + (n + 1) * q) (ρ - 1)) ∧ ∀ j, j < q → ri j = lv f (18 + (n + 1) * j) n
theorem sp_inL {a lo hi : Nat} (ha : a < 256) (hl : lo < 256) (hh : hi < 256) {K : Int32 → Prop} (h1 : 48 + lo ≤ a → a ≤ 48 + hi → K 1) (h0 : ¬ (48 + lo ≤ a ∧ a ≤ 48 + hi) → K 0) : P_X8_in (nI a - 48).toInt64 (nI lo).toInt64 (nI hi).toInt64 K := by
  have e : (nI a - 48).toInt = (a : Int) - 48 := pk_sub_toInt (a := a) (b := 48) (by omega) (by omega)
  refine sp_in3 (fun z => ?_) (fun z => h0 (fun y => z ?_))
  · rw [Int32.le_iff_toInt_le, Int32.le_iff_toInt_le, e, nI_toInt (by omega), nI_toInt (by omega)] at z
    exact h1 (by omega) (by omega)
  · rw [Int32.le_iff_toInt_le, Int32.le_iff_toInt_le, e, nI_toInt (by omega), nI_toInt (by omega)]
    omega
theorem l0 : (0 : Int64) = (nI 0).toInt64 := by decide
theorem l1 : (1 : Int64) = (nI 1).toInt64 := by decide
theorem l4 : (4 : Int64) = (nI 4).toInt64 := by decide
theorem l8 : (8 : Int64) = (nI 8).toInt64 := by decide
theorem l9 : (9 : Int64) = (nI 9).toInt64 := by decide
theorem b48 {a : Nat} (h : 48 ≤ a) : nI a - 48 = nI (a - 48) := pk_sub (b := 48) h
theorem sp_takeHead {f : Nat → Nat} {k : Nat} (hk1 : 1 ≤ k) (hk : k < 18) (hf : f k < 256) (hok : ∀ i, i < k → ok f i) {rd rc rp : Int32} {rl rt : Nat → Int32} (hR : RH f k rd rc rp rl rt) {K : Int32 → Int32 → Int32 → Int32 → (Nat → Int32) → (Nat → Int32) → Prop}
    (h1 : ∀ rd rc rp rl rt, ok f k → RH f (k + 1) rd rc rp rl rt → K 1 rd rc rp rl rt) (h0 : ∀ rd rc rp rl rt, ¬ ok f k → K 0 rd rc rp rl rt) : P_X8_takeHead (nI k) (nI (f k) - 48) rd rc rp rl rt K := by
  unfold P_X8_takeHead
  obtain ⟨r1, r2, r3, r4, r5⟩ := hR
  have ne : ∀ j, j < 256 → ¬ k = j → ¬ nI k = nI j := fun j hj h z => h (nI_lit (by omega) (by omega) z)
  by_cases k1 : k = 1
  · subst k1
    refine br_t' rfl ?_
    rw [l1, l8]
    refine sp_inL hf (by omega) (by omega) (fun a b => ⟨bool1, h1 _ _ _ _ _ ⟨by omega, fun _ => ⟨a, b⟩, by omega, by omega, by omega, by omega, fun q => absurd q (by omega), fun q => absurd q (by omega)⟩ ⟨fun _ => b48 (by omega), fun q => absurd q (by omega), fun q => absurd q (by omega), fun i hi' => ⟨fun q => absurd q (by omega), fun q => absurd q (by omega), fun q => absurd q (by omega)⟩, fun j hj q => absurd q (by omega)⟩⟩) (fun a => ⟨bool0, h0 _ _ _ _ _ (fun o => a (o.2.1 rfl))⟩)
  refine br_f' (ne 1 (by omega) k1) ?_
  by_cases k2 : k = 2
  · subst k2
    refine br_t' rfl ?_
    rw [l1, l4]
    refine sp_inL hf (by omega) (by omega) (fun a b => ⟨bool1, h1 _ _ _ _ _ ⟨by omega, by omega, fun _ => ⟨a, b⟩, by omega, by omega, by omega, fun q => absurd q (by omega), fun q => absurd q (by omega)⟩ ⟨fun _ => r1 (by omega), fun _ => b48 (by omega), fun q => absurd q (by omega), fun i hi' => ⟨fun q => absurd q (by omega), fun q => absurd q (by omega), fun q => absurd q (by omega)⟩, fun j hj q => absurd q (by omega)⟩⟩) (fun a => ⟨bool0, h0 _ _ _ _ _ (fun o => a (o.2.2.1 rfl))⟩)
  refine br_f' (ne 2 (by omega) k2) ?_
  by_cases k3 : k = 3
  · subst k3
    refine br_t' rfl ?_
    rw [l1, l8]
    refine sp_inL hf (by omega) (by omega) (fun a b => ⟨bool1, h1 _ _ _ _ _ ⟨by omega, by omega, by omega, fun _ => ⟨a, b⟩, by omega, by omega, fun q => absurd q (by omega), fun q => absurd q (by omega)⟩ ⟨fun _ => r1 (by omega), fun _ => r2 (by omega), fun _ => b48 (by omega), fun i hi' => ⟨fun q => absurd q (by omega), fun q => absurd q (by omega), fun q => absurd q (by omega)⟩, fun j hj q => absurd q (by omega)⟩⟩) (fun a => ⟨bool0, h0 _ _ _ _ _ (fun o => a (o.2.2.2.1 rfl))⟩)
  refine br_f' (ne 3 (by omega) k3) ?_
  have hk4 : 4 ≤ k := by omega
  have okk : 48 ≤ f k → f k ≤ 57 → (14 ≤ k → f k ≤ f (k - 1)) → ok f k := fun a b c => ⟨by omega, by omega, by omega, by omega, fun _ _ => ⟨a, b⟩, fun q _ => c q, fun q => absurd q (by omega), fun q => absurd q (by omega)⟩
  by_cases h13 : 13 ≤ k
  · refine br_t (nI_le (a := 13) h13 (by omega)) ?_
    rw [show (13 : Int32) = nI 13 from rfl, pk_sub h13, nI_clamp (by omega : k - 13 < 2 ^ 31)]
    refine ⟨vp_in_nI (by omega) (by omega), ?_⟩
    have new : 48 ≤ f k → RH f (k + 1) rd rc rp rl (upd rt (k - 13) (nI (f k) - 48)) := by
      intro a
      refine ⟨fun _ => r1 (by omega), fun _ => r2 (by omega), fun _ => r3 (by omega), fun i hi' => ⟨fun q => absurd q (by omega), fun q => absurd q (by omega), fun q => (r4 i hi').2.2 (by omega)⟩, fun j hj q => ?_⟩
      rw [upd_at]
      by_cases h : j = k - 13
      · rw [if_pos h, b48 a, show 13 + j = k by omega]
      · rw [if_neg h]; exact r5 j hj (by omega)
    by_cases h14 : k = 13
    · subst h14
      refine br_t' rfl ?_
      rw [l0, l9]
      exact sp_inL hf (by omega) (by omega) (fun a b => ⟨bool1, h1 _ _ _ _ _ (okk (by omega) (by omega) (fun q => absurd q (by omega))) (new (by omega))⟩) (fun a => ⟨bool0, h0 _ _ _ _ _ (fun o => a (o.2.2.2.2.1 (by omega) (by omega)))⟩)
    · refine br_f' (ne 13 (by omega) h14) ?_
      rw [show (14 : Int32) = nI 14 from rfl, pk_sub (by omega), nI_clamp (by omega : k - 14 < 2 ^ 31)]
      refine ⟨vp_in_nI (by omega) (by omega), ?_⟩
      have e : upd rt (k - 13) (nI (f k) - 48) (k - 14) = nI (f (k - 1) - 48) := by
        rw [upd_at, if_neg (by omega), r5 (k - 14) (by omega) (by omega), show 13 + (k - 14) = k - 1 by omega]
      have ho := (hok (k - 1) (by omega)).2.2.2.2.1 (by omega) (by omega)
      rw [l0, e]
      exact sp_inL hf (by omega) (by omega) (fun a b => ⟨bool1, h1 _ _ _ _ _ (okk (by omega) (by omega) (fun _ => by omega)) (new (by omega))⟩) (fun a => ⟨bool0, h0 _ _ _ _ _ (fun o => a (by have := o.2.2.2.2.1 (by omega) (by omega); have := o.2.2.2.2.2.1 (by omega) (by omega); omega))⟩)
  · refine br_f (nI_ge (b := 13) (by omega) (by omega)) ?_
    rw [show (4 : Int32) = nI 4 from rfl, pk_sub hk4, show (3 : Int32) = nI 3 from rfl, rem_nI (by omega) (by omega) (by omega), pk_div (by omega) (by omega) (by omega), nI_clamp (by omega : (k - 4) / 3 < 2 ^ 31)]
    have fin : ∀ x, (48 ≤ f k → f k ≤ 57 → RH f (k + 1) rd rc rp (upd rl ((k - 4) / 3) x) rt) → P_X8_in (nI (f k) - 48).toInt64 (0 : Int64) (9 : Int64) (fun r11 => (narrow .boolean (.int r11) = .int r11 ∧ K r11 rd rc rp (upd rl ((k - 4) / 3) x) rt)) := by
      intro x hx
      rw [l0, l9]
      exact sp_inL hf (by omega) (by omega) (fun a b => ⟨bool1, h1 _ _ _ _ _ (okk (by omega) (by omega) (fun q => absurd q (by omega))) (hx (by omega) (by omega))⟩) (fun a => ⟨bool0, h0 _ _ _ _ _ (fun o => a (o.2.2.2.2.1 (by omega) (by omega)))⟩)
    have new : ∀ x, ((5 + 3 * ((k - 4) / 3) = k + 1 → x = nI (f (4 + 3 * ((k - 4) / 3)) - 48)) ∧ (6 + 3 * ((k - 4) / 3) = k + 1 → x = nI (10 * (f (4 + 3 * ((k - 4) / 3)) - 48) + (f (5 + 3 * ((k - 4) / 3)) - 48))) ∧ (7 + 3 * ((k - 4) / 3) ≤ k + 1 → x = nI (10 * (10 * (f (4 + 3 * ((k - 4) / 3)) - 48) + (f (5 + 3 * ((k - 4) / 3)) - 48)) + (f (6 + 3 * ((k - 4) / 3)) - 48)))) → RH f (k + 1) rd rc rp (upd rl ((k - 4) / 3) x) rt := by
      intro x hx
      refine ⟨fun _ => r1 (by omega), fun _ => r2 (by omega), fun _ => r3 (by omega), fun i hi' => ?_, fun j hj q => absurd q (by omega)⟩
      rw [upd_at]
      by_cases h : i = (k - 4) / 3
      · rw [if_pos h, h]; exact hx
      · rw [if_neg h]
        exact ⟨fun q => absurd q (by omega), fun q => absurd q (by omega), fun q => (r4 i hi').2.2 (by omega)⟩
    by_cases hm : (k - 4) % 3 = 0
    · refine br_t' (by rw [hm]; rfl) ⟨vp_in_nI (by omega) (by omega), fin _ (fun a b => new _ ⟨fun q => ?_, fun q => absurd q (by omega), fun q => absurd q (by omega)⟩)⟩
      rw [b48 a, show 4 + 3 * ((k - 4) / 3) = k by omega]
    · refine br_f' (fun z => hm (nI_lit (b := 0) (by omega) (by omega) z)) ⟨vp_in_nI (by omega) (by omega), fin _ (fun a b => new _ ⟨fun q => absurd q (by omega), fun q => ?_, fun q => ?_⟩)⟩
      · have e := (r4 ((k - 4) / 3) (by omega)).1 (by omega)
        rw [e, b48 a, show (10 : Int32) = nI 10 from rfl, pk_mul, nI_add, show 5 + 3 * ((k - 4) / 3) = k by omega]
      · have e := (r4 ((k - 4) / 3) (by omega)).2.1 (by omega)
        rw [e, b48 a, show (10 : Int32) = nI 10 from rfl, pk_mul, nI_add, show 6 + 3 * ((k - 4) / 3) = k by omega]
theorem lv_step {f : Nat → Nat} {b d : Nat} : lv f b (d + 1) = if f (b + 1 + d) = 111 then lv f b d ||| ((1 : Int32) <<< (nI d &&& (31 : Int32))) else lv f b d := rfl
theorem dm {n q ρ k : Nat} (hρ : ρ ≤ n) (e : k = 18 + (n + 1) * q + ρ) : (k - 18) % (n + 1) = ρ ∧ (k - 18) / (n + 1) = q := by
  have e2 : k - 18 = (n + 1) * q + ρ := by omega
  rw [e2]
  refine ⟨?_, ?_⟩
  · rw [Nat.mul_add_mod]; exact Nat.mod_eq_of_lt (by omega)
  · rw [Nat.mul_add_div (by omega), Nat.div_eq_of_lt (by omega), Nat.add_zero]
theorem sp_takeOfLine {f : Nat → Nat} {k n : Nat} (hn1 : 1 ≤ n) (hn8 : n ≤ 8) (hE : f 1 - 47 = n + 1) (hk : 18 ≤ k) (hf : f k < 256) {rm la : Int32} {ri : Nat → Int32} (hR : RLn f n k rm la ri) {K : Int32 → Int32 → Int32 → (Nat → Int32) → Prop}
    (h1 : ∀ rm la ri, ok f k → RLn f n (k + 1) rm la ri → K 1 rm la ri) (h0 : ∀ rm la ri, ¬ ok f k → K 0 rm la ri) : P_X8_takeOfLine (nI (f k)) (nI n) rm la ri K := by
  unfold P_X8_takeOfLine
  obtain ⟨q, ρ, ek, hρ, hq, hq2, erm, hla0, hla, hri⟩ := hR
  obtain ⟨hm, hd⟩ := dm hρ ek
  subst erm
  by_cases r0 : ρ = 0
  · rw [hla0 r0]
    refine br_f (by decide) ?_
    by_cases h108 : f k = 108
    · refine br_t' (by rw [h108]; rfl) ?_
      by_cases q8 : q = 8
      · refine br_t' (by rw [q8]; rfl) (h0 _ _ _ (fun o => ?_))
        have := (o.2.2.2.2.2.2.1 hk (by rw [hE, hm]; exact r0)).2
        rw [hE, hd] at this
        omega
      · refine br_f' (fun z => q8 (nI_lit (b := 8) (by omega) (by omega) z)) ⟨vp_in_nI (by omega) (by omega), h1 _ _ _ ?_ ?_⟩
        · refine ⟨by omega, by omega, by omega, by omega, by omega, by omega, fun _ _ => ⟨h108, by rw [hE, hd]; omega⟩, fun _ z => absurd (show (k - 18) % (f 1 - 47) = 0 by rw [hE, hm]; exact r0) z⟩
        · rw [nI_clamp (by omega)]
          refine ⟨q, 1, by omega, by omega, hq, fun _ => by omega, rfl, fun z => absurd z (by omega), fun _ => ⟨rfl, ?_⟩, fun j hj => ?_⟩
          · rw [upd_at, if_pos rfl]; rfl
          · rw [upd_at, if_neg (by omega)]; exact hri j hj
    · refine br_f' (fun z => h108 (nI_lit (b := 108) (by omega) (by omega) z)) (h0 _ _ _ (fun o => ?_))
      exact h108 (o.2.2.2.2.2.2.1 hk (by rw [hE, hm]; exact r0)).1
  · obtain ⟨ela, eri⟩ := hla (by omega)
    have hq8 := hq2 (by omega)
    subst ela
    refine br_t (nI_pos' (by omega)) ⟨vp_in_nI (by omega) (by omega), ?_⟩
    rw [nI_clamp (by omega : q < 2 ^ 31), eri, nI_1, show ρ - 1 + 1 = ρ by omega, or_zero32]
    have ekk : 18 + (n + 1) * q + 1 + (ρ - 1) = k := by omega
    have hlv := lv_step (f := f) (b := 18 + (n + 1) * q) (d := ρ - 1)
    rw [ekk, show ρ - 1 + 1 = ρ by omega] at hlv
    have okk : (f k = 111 ∨ f k = 45) → ok f k := fun h => ⟨by omega, by omega, by omega, by omega, by omega, by omega, fun _ z => absurd (show ρ = 0 by rw [hE, hm] at z; exact z) r0, fun _ _ => h⟩
    have nok : ok f k → (f k = 111 ∨ f k = 45) := fun o => o.2.2.2.2.2.2.2 hk (by rw [hE, hm]; exact r0)
    have new1 : ¬ ρ = n → RLn f n (k + 1) (nI q) (nI ρ) (upd ri q (lv f (18 + (n + 1) * q) ρ)) := by
      intro h
      refine ⟨q, ρ + 1, by omega, by omega, hq, fun _ => hq8, rfl, fun z => absurd z (by omega), fun _ => ⟨rfl, ?_⟩, fun j hj => ?_⟩
      · rw [upd_at, if_pos rfl]; rfl
      · rw [upd_at, if_neg (by omega)]; exact hri j hj
    have new2 : ρ = n → RLn f n (k + 1) (nI q + 1) (-1) (upd ri q (lv f (18 + (n + 1) * q) ρ)) := by
      intro h
      refine ⟨q + 1, 0, by rw [Nat.mul_succ]; omega, by omega, by omega, fun z => absurd z (by omega), nI_1 q, fun _ => rfl, fun z => absurd z (by omega), fun j hj => ?_⟩
      rw [upd_at]
      by_cases hjq : j = q
      · rw [if_pos hjq, hjq, h]
      · rw [if_neg hjq]; exact hri j (by omega)
    have dec : ∀ (M L : Int32) (R : Nat → Int32), (ok f k → RLn f n (k + 1) M L R) → ((nI (f k) = (111 : Int32) → K 1 M L R) ∧ (¬ nI (f k) = (111 : Int32) → ((¬ nI (f k) = (45 : Int32) → K 0 M L R) ∧ (nI (f k) = (45 : Int32) → K 1 M L R)))) := by
      intro M L R hh
      refine ⟨fun z => ?_, fun z => ⟨fun y => h0 _ _ _ (fun o => ?_), fun y => ?_⟩⟩
      · have o := okk (Or.inl (nI_lit (b := 111) (by omega) (by omega) z))
        exact h1 _ _ _ o (hh o)
      · rcases nok o with x | x
        · exact z (by rw [x]; rfl)
        · exact y (by rw [x]; rfl)
      · have o := okk (Or.inr (nI_lit (b := 45) (by omega) (by omega) y))
        exact h1 _ _ _ o (hh o)
    refine ⟨fun z => ?_, fun z => ?_⟩
    · have hne : ¬ f k = 111 := fun x => z (by rw [x]; rfl)
      rw [if_neg hne] at hlv
      rw [← hlv]
      refine ⟨fun y => dec _ _ _ (fun _ => new1 (fun x => y (by rw [x]))), fun y => dec _ _ _ (fun _ => new2 (nI_lit (by omega) (by omega) y))⟩
    · have hne : f k = 111 := nI_lit (b := 111) (by omega) (by omega) z
      rw [if_pos hne] at hlv
      rw [← hlv]
      refine ⟨fun y => dec _ _ _ (fun _ => new1 (fun x => y (by rw [x]))), fun y => dec _ _ _ (fun _ => new2 (nI_lit (by omega) (by omega) y))⟩
