/-! ===== pure rows: fault, job ===== -/
def RIn (f : Nat → Nat) (k : Nat) (rd rc rp rm la : Int32) (rl rt ri : Nat → Int32) : Prop :=
  (k ≤ 18 → RH f k rd rc rp rl rt ∧ rm = 0 ∧ la = -1) ∧ (18 ≤ k → RH f 18 rd rc rp rl rt ∧ RLn f (f 1 - 48) k rm la ri)
theorem sp_readL {f : Nat → Nat} {t : Nat} (ht : t ≤ 99) {mt : Nat → Int32} (hmt : ∀ i, i < t → mt i = nI (f i) ∧ f i < 256) {C1 : Int32 → Int32 → Int32 → Int32 → Int32 → Int32 → (Nat → Int32) → (Nat → Int32) → (Nat → Int32) → Prop} {C2 : Int32 → Int32 → Int32 → Int32 → Int32 → (Nat → Int32) → (Nat → Int32) → (Nat → Int32) → Prop}
    (hbad : ∀ p rd rc rp rm la rl rt ri, p < t → ¬ ok f p → (∀ i, i < p → ok f i) → C1 (nI p) rd rc rp rm la rl rt ri)
    (hgood : ∀ rd rc rp rm la rl rt ri, (∀ i, i < t → ok f i) → RIn f t rd rc rp rm la rl rt ri → C2 rd rc rp rm la rl rt ri) :
    ∀ m k rd rc rp rm la rl rt ri, k + m = t → 1 ≤ k → (∀ i, i < k → ok f i) → RIn f k rd rc rp rm la rl rt ri → P_X8_readText_L32 (nI t) mt C1 C2 (m + 1) (nI k) rd rc rp rm la rl rt ri := by
  intro m
  induction m with
  | zero =>
    intro k rd rc rp rm la rl rt ri hk h1 hok hR
    unfold P_X8_readText_L32
    have e : k = t := by omega
    subst e
    exact br_t (nI_le (Nat.le_refl _) (by omega)) (hgood _ _ _ _ _ _ _ _ hok hR)
  | succ m ih =>
    intro k rd rc rp rm la rl rt ri hk h1 hok hR
    unfold P_X8_readText_L32
    refine br_f (nI_ge (by omega) (by omega)) ?_
    obtain ⟨ek, hfk⟩ := hmt k (by omega)
    rw [nI_clamp (by omega), ek, nI_1]
    have hnext : ok f k → ∀ i, i < k + 1 → ok f i := fun o i hi' => by
      by_cases h : i = k
      · rw [h]; exact o
      · exact hok i (by omega)
    by_cases h18 : 18 ≤ k
    · refine br_t (nI_le (a := 18) h18 (by omega)) ⟨vp_in_nI (by omega) (by omega), ?_⟩
      obtain ⟨hRH, hRL⟩ := hR.2 h18
      obtain ⟨o1, o2⟩ := ok_2 (hok 1 (by omega))
      rw [hRH.1 (by omega)]
      refine sp_takeOfLine (n := f 1 - 48) (by omega) (by omega) (by omega) h18 hfk hRL (fun rm' la' ri' o hR' => if10' ?_) (fun rm' la' ri' o => if00' (hbad k _ _ _ _ _ _ _ _ (by omega) o hok))
      refine ih (k + 1) _ _ _ _ _ _ _ _ (by omega) (by omega) (hnext o) ⟨fun z => absurd z (by omega), fun _ => ⟨?_, hR'⟩⟩
      rw [hRH.1 (by omega)] at hRH
      exact hRH
    · refine br_f (nI_ge (b := 18) (by omega) (by omega)) ⟨vp_in_nI (by omega) (by omega), ?_⟩
      obtain ⟨hRH, hrm, hla⟩ := hR.1 (by omega)
      refine sp_takeHead h1 (by omega) hfk hok hRH (fun rd' rc' rp' rl' rt' o hR' => if10 ?_) (fun rd' rc' rp' rl' rt' o => if00 (hbad k _ _ _ _ _ _ _ _ (by omega) o hok))
      refine ih (k + 1) _ _ _ _ _ _ _ _ (by omega) (by omega) (hnext o) ⟨fun z => ⟨hR', hrm, hla⟩, fun z => ?_⟩
      have e18 : k + 1 = 18 := by omega
      rw [e18] at hR' ⊢
      exact ⟨hR', 0, 0, rfl, by omega, by omega, fun z => absurd z (by omega), hrm.trans rfl, fun _ => hla, fun z => absurd z (by omega), fun j hj => absurd hj (by omega)⟩
theorem sp_readText {f : Nat → Nat} {t : Nat} (ht : t ≤ 99) {mt : Nat → Int32} (hmt : ∀ i, i < t → mt i = nI (f i) ∧ f i < 256) {rd rc rp rm la : Int32} {rl rt ri : Nat → Int32} {K : Int32 → Int32 → Int32 → Int32 → Int32 → Int32 → (Nat → Int32) → (Nat → Int32) → (Nat → Int32) → Prop}
    (hbad : ∀ p rd rc rp rm la rl rt ri, p < t → ¬ ok f p → (∀ i, i < p → ok f i) → K (nI p) rd rc rp rm la rl rt ri)
    (hg0 : ∀ rd rc rp rm la rl rt ri, (∀ i, i < t → ok f i) → (t < 18 ∨ ¬ (t - 18) % (f 1 - 47) = 0) → K (nI t) rd rc rp rm la rl rt ri)
    (hg1 : ∀ rd rc rp rm la rl rt ri, (∀ i, i < t → ok f i) → 18 ≤ t → (t - 18) % (f 1 - 47) = 0 → RIn f t rd rc rp rm la rl rt ri → K (-9) rd rc rp rm la rl rt ri) :
    P_X8_readText (nI t) rd rc rp rm la mt rl rt ri K := by
  unfold P_X8_readText
  by_cases t0 : t = 0
  · subst t0
    exact br_t rfl (hg0 _ _ _ _ _ _ _ _ (fun i hi' => absurd hi' (by omega)) (Or.inl (by omega)))
  refine br_f (nI_ne0 (by omega) (by omega)) ?_
  obtain ⟨e0, hf0⟩ := hmt 0 (by omega)
  rw [tn0, e0]
  by_cases h72 : ¬ f 0 = 72
  · refine br_f (fun z => h72 (nI_lit (b := 72) (by omega) (by omega) z)) (hbad 0 _ _ _ _ _ _ _ _ (by omega) (fun o => h72 (o.1 rfl)) (fun i hi' => absurd hi' (by omega)))
  have h72 := Decidable.not_not.mp h72
  refine br_t (by rw [h72]; rfl) ⟨t - 1 + 1, ?_⟩
  have ok0 : ok f 0 := ⟨fun _ => h72, by omega, by omega, by omega, by omega, by omega, fun q => absurd q (by omega), fun q => absurd q (by omega)⟩
  refine sp_readL ht hmt (fun p rd rc rp rm la rl rt ri a b c => hbad p _ _ _ _ _ _ _ _ a b c) (fun rd rc rp rm la rl rt ri hall hR => ?_) (t - 1) 1 _ _ _ _ _ _ _ _ (by omega) (by omega) (fun i hi' => by rw [show i = 0 by omega]; exact ok0) ⟨fun _ => ⟨⟨fun q => absurd q (by omega), fun q => absurd q (by omega), fun q => absurd q (by omega), fun i hi' => ⟨fun q => absurd q (by omega), fun q => absurd q (by omega), fun q => absurd q (by omega)⟩, fun j hj q => absurd q (by omega)⟩, rfl, rfl⟩, fun q => absurd q (by omega)⟩
  by_cases h17 : t ≤ 17
  · exact br_t (nI_le (b := 17) h17 (by omega)) (hg0 _ _ _ _ _ _ _ _ hall (Or.inl (by omega)))
  refine br_f (nI_ge (a := 17) (by omega) (by omega)) ?_
  obtain ⟨hRH, q, ρ, ek, hρ, hq, hq2, erm, hla0, hla, hri⟩ := hR.2 (by omega)
  obtain ⟨o1, o2⟩ := ok_2 (hall 1 (by omega))
  obtain ⟨hm, hd⟩ := dm hρ ek
  rw [show f 1 - 48 + 1 = f 1 - 47 by omega] at hm
  by_cases r0 : ρ = 0
  · rw [hla0 r0]
    refine br_f (by decide) (hg1 _ _ _ _ _ _ _ _ hall (by omega) (by rw [hm]; exact r0) ?_)
    rw [← hla0 r0]
    exact hR
  · rw [(hla (by omega)).1]
    exact br_t (nI_pos' (by omega)) (hg0 _ _ _ _ _ _ _ _ hall (Or.inr (by rw [hm]; exact r0)))
theorem txt_f {tl ml : Int32} {le mt : Nat → Int32} (hR : R_txt tl le ml mt) : ∃ (t : Nat) (f : Nat → Nat), t ≤ 99 ∧ tl = nI t ∧ ml = nI t ∧ (∀ i, i < t → le i = nI (f i) ∧ f i < 256) ∧ ∀ i, i < t → mt i = nI (f i) ∧ f i < 256 := by
  obtain ⟨t, ht, e1, e2, h⟩ := hR
  have key : ∀ i, i < t → le i = nI ((le i).toNatClampNeg) ∧ (le i).toNatClampNeg < 256 := by
    intro i hi'
    obtain ⟨-, v, hv, ev⟩ := h i hi'
    rw [ev, nI_clamp (by omega)]
    exact ⟨rfl, hv⟩
  exact ⟨t, fun i => (le i).toNatClampNeg, ht, e1, e2, key, fun i hi' => ⟨(h i hi').1.symm.trans (key i hi').1, (key i hi').2⟩⟩
theorem rt_fault {L : Nat} {xs : Nat → Int32} {x3 tl ml rd rc rp rm la : Int32} {le mt rl rt ri : Nat → Int32} {N : Int32 → Int32 → Int32 → Int32 → Int32 → (Nat → Int32) → (Nat → Int32) → (Nat → Int32) → Prop} (hR : R_txt tl le ml mt) (hN : ∀ a b c d e f g h, N a b c d e f g h) : P_T188 L xs x3 tl le ml rd rc rp rm la mt rl rt ri N := by
  unfold P_T188
  obtain ⟨t, f, ht, e1, e2, hle, hmt⟩ := txt_f hR
  subst e1; subst e2
  unfold P_X7_fault
  rcases ff_cases f t with ⟨p, hp, hb, ho⟩ | hall
  · refine sp_ffBad ht hle hp ho hb ?_
    unfold P_X8_fault
    refine sp_readText ht hmt (fun p' rd rc rp rm la rl rt ri hp' hb' ho' => ?_) (fun rd rc rp rm la rl rt ri hh => absurd (hh p hp) hb) (fun rd rc rp rm la rl rt ri hh => absurd (hh p hp) hb)
    have e : p' = p := by
      rcases Nat.lt_trichotomy p' p with h | h | h
      · exact absurd (ho p' h) hb'
      · exact h
      · exact absurd (ho' p h) hb
    subst e
    exact eqN (hN _ _ _ _ _ _ _ _)
  · refine sp_ffGood ht hle hall (fun h => ?_) (fun h h' => ?_)
    · unfold P_X8_fault
      refine sp_readText ht hmt (fun p' rd rc rp rm la rl rt ri hp' hb' ho' => absurd (hall p' hp') hb') (fun rd rc rp rm la rl rt ri _ _ => eqN (hN _ _ _ _ _ _ _ _)) (fun rd rc rp rm la rl rt ri _ h1 h2 => ?_)
      rcases h with h | h
      · omega
      · exact absurd h2 h
    · unfold P_X8_fault
      refine sp_readText ht hmt (fun p' rd rc rp rm la rl rt ri hp' hb' ho' => absurd (hall p' hp') hb') (fun rd rc rp rm la rl rt ri _ hh => ?_) (fun rd rc rp rm la rl rt ri _ h1 h2 _ => eqN (hN _ _ _ _ _ _ _ _))
      rcases hh with hh | hh
      · omega
      · exact absurd h' hh
-- the job told
theorem sp_figAt {f : Nat → Nat} {le : Nat → Int32} {p : Nat} (hp : p < 99) (e : le p = nI (f p)) (h : 48 ≤ f p) {K : Int32 → Prop} (hK : K (nI (f p - 48))) : P_X6_figureAt (nI p) le K := by
  unfold P_X6_figureAt
  refine ⟨vp_in_nI hp (by omega), ?_⟩
  rw [nI_clamp (by omega), e, b48 h]
  exact hK
def thr (f : Nat → Nat) (p : Nat) : Nat := 10 * (10 * (f p - 48) + (f (p + 1) - 48)) + (f (p + 2) - 48)
theorem sp_three {f : Nat → Nat} {le : Nat → Int32} {p : Nat} (hp : p < 90) (e : ∀ i, i < 18 → le i = nI (f i)) (hp2 : p + 2 < 18) (h0 : 48 ≤ f p) (h1 : 48 ≤ f (p + 1)) (h2 : 48 ≤ f (p + 2)) {K : Int32 → Prop} (hK : K (nI (thr f p))) : P_X6_threeFiguresAt (nI p) le K := by
  unfold P_X6_threeFiguresAt
  refine sp_figAt (by omega) (e p (by omega)) h0 ?_
  rw [nI_1]
  refine sp_figAt (by omega) (e _ (by omega)) h1 ?_
  rw [show (2 : Int32) = nI 2 from rfl, nI_add]
  refine sp_figAt (by omega) (e _ (by omega)) h2 ?_
  rw [show (100 : Int32) = nI 100 from rfl, show (10 : Int32) = nI 10 from rfl, pk_mul, pk_mul, nI_add, nI_add]
  have e : (f p - 48) * 100 + (f (p + 1) - 48) * 10 + (f (p + 2) - 48) = thr f p := by unfold thr; omega
  rw [e]
  exact hK
theorem sp_tellHead {f : Nat → Nat} {le : Nat → Int32} (e : ∀ i, i < 18 → le i = nI (f i)) (ho : ∀ i, i < 18 → ok f i) {a b c d g h : Int32} {K : Int32 → Int32 → Int32 → Int32 → Int32 → Int32 → Prop}
    (hK : K (nI (f 1 - 48)) (nI (f 2 - 48)) (nI (f 3 - 48)) (nI (thr f 4)) (nI (thr f 7)) (nI (thr f 10))) : P_X6_tellHead le a b c d g h K := by
  unfold P_X6_tellHead
  have o1 := (ho 1 (by omega)).2.1 rfl
  have o2 := (ho 2 (by omega)).2.2.1 rfl
  have o3 := (ho 3 (by omega)).2.2.2.1 rfl
  have o4 : ∀ i, 4 ≤ i → i < 18 → 48 ≤ f i := fun i h4 h5 => ((ho i h5).2.2.2.2.1 h4 h5).1
  refine sp_figAt (p := 1) (by omega) (e _ (by omega)) (by omega) ?_
  refine sp_figAt (p := 2) (by omega) (e _ (by omega)) (by omega) ?_
  refine sp_figAt (p := 3) (by omega) (e _ (by omega)) (by omega) ?_
  refine sp_three (p := 4) (by omega) e (by omega) (o4 _ (by omega) (by omega)) (o4 _ (by omega) (by omega)) (o4 _ (by omega) (by omega)) ?_
  refine sp_three (p := 7) (by omega) e (by omega) (o4 _ (by omega) (by omega)) (o4 _ (by omega) (by omega)) (o4 _ (by omega) (by omega)) ?_
  refine sp_three (p := 10) (by omega) e (by omega) (o4 _ (by omega) (by omega)) (o4 _ (by omega) (by omega)) (o4 _ (by omega) (by omega)) ?_
  have e1 : (if (1 : Int32) < nI (f 1 - 48) then nI (f 1 - 48) else 1) = nI (f 1 - 48) := by
    by_cases h : f 1 - 48 = 1
    · rw [h]; rfl
    · have hh : (1 : Int32) < nI (f 1 - 48) := nI_lt (a := 1) (by omega) (by omega)
      rw [if_pos hh]
  have e8 : (if nI (f 1 - 48) < (8 : Int32) then nI (f 1 - 48) else 8) = nI (f 1 - 48) := by
    by_cases h : f 1 - 48 = 8
    · rw [h]; rfl
    · have hh : nI (f 1 - 48) < (8 : Int32) := nI_lt (b := 8) (by omega) (by omega)
      rw [if_pos hh]
  rw [e1, e8]
  exact hK
theorem sp_startAnew {a b c d e f g h i : Int32} {hs : Nat → Int32} {K : Int32 → Int32 → Int32 → Int32 → Int32 → Int32 → Int32 → Int32 → Int32 → (Nat → Int32) → Prop} (hK : ∀ h', (∀ k, k < 8 → h' k = 0) → K 0 0 0 99 0 0 0 0 0 h') : P_X5_startAnew a b c d e f g h i hs K := by
  unfold P_X5_startAnew
  refine cnt_itr (P := fun fu i s => P_X5_startAnew_L2 (fun h' => K 0 0 0 99 0 0 0 0 0 h') fu i s) 8 (by omega) (fun k s => upd s k 0) hs ?_ ?_
  · intro fu
    unfold P_X5_startAnew_L2
    refine br_t (by decide) (hK _ (fun k hk => ?_))
    exact itr_inv (F := fun k s => upd s k 0) (s0 := hs) (fun m (s : Nat → Int32) => ∀ k, k < m → s k = 0) (fun k hk => absurd hk (by omega)) 8 (fun m s hm hs' k hk => by
      rw [upd_at]
      by_cases h : k = m
      · rw [if_pos h]
      · rw [if_neg h]; exact hs' k (by omega)) 8 (Nat.le_refl _) k hk
  · intro fu k s hk _ hp
    unfold P_X5_startAnew_L2
    refine br_f (nI_ge (b := 8) hk (by omega)) ⟨vp_in_nI hk (by omega), ?_⟩
    rw [nI_1, nI_clamp (by omega)]
    exact hp
theorem sp_tellTable {f : Nat → Nat} {le fg : Nat → Int32} (e : ∀ i, i < 18 → le i = nI (f i)) (ho : ∀ i, i < 18 → ok f i) {K : (Nat → Int32) → Prop} (hK : ∀ fg', (∀ i, i < 5 → fg' i = nI (f (13 + i) - 48)) → K fg') : P_X6_tellTable le fg K := by
  unfold P_X6_tellTable
  refine cnt_itr (P := fun fu i s => P_X6_tellTable_L2 le (fun h' => K h') fu i s) 5 (by omega) (fun k s => upd s k (nI (f (13 + k) - 48))) fg ?_ ?_
  · intro fu
    unfold P_X6_tellTable_L2
    refine br_t (by decide) (hK _ (fun k hk => ?_))
    exact itr_inv (F := fun k s => upd s k (nI (f (13 + k) - 48))) (s0 := fg) (fun m (s : Nat → Int32) => ∀ k, k < m → s k = nI (f (13 + k) - 48)) (fun k hk => absurd hk (by omega)) 5 (fun m s hm hs' k hk => by
      rw [upd_at]
      by_cases h : k = m
      · rw [if_pos h, h]
      · rw [if_neg h]; exact hs' k (by omega)) 5 (Nat.le_refl _) k hk
  · intro fu k s hk _ hp
    unfold P_X6_tellTable_L2
    refine br_f (nI_ge (b := 5) hk (by omega)) ?_
    rw [show (13 : Int32) = nI 13 from rfl, nI_add]
    refine sp_figAt (by omega) (e _ (by omega)) ((ho _ (by omega)).2.2.2.2.1 (by omega) (by omega)).1 ⟨vp_in_nI hk (by omega), ?_⟩
    rw [nI_1, nI_clamp (by omega)]
    exact hp
theorem lvl_lt {f : Nat → Nat} {b : Nat} : ∀ d, d ≤ 8 → ∃ v, v < 2 ^ d ∧ lv f b d = nI v := by
  intro d
  induction d with
  | zero => intro _; exact ⟨0, by decide, rfl⟩
  | succ d ih =>
    intro hd
    obtain ⟨v, hv, ev⟩ := ih (by omega)
    have hp := Nat.pow_lt_pow_right (show 1 < 2 by decide) (Nat.lt_succ_self d)
    have h8 := two_pow_8 (show d ≤ 8 by omega)
    rw [lv_step]
    by_cases h : f (b + 1 + d) = 111
    · rw [if_pos h, ev]
      have hor := or_c ⟨v, by omega⟩ ⟨d, by omega⟩
      dsimp only at hor
      exact ⟨v ||| 2 ^ d, Nat.or_lt_two_pow (by omega) hp, hor⟩
    · rw [if_neg h]; exact ⟨v, by omega, ev⟩
theorem sp_tellQueue {f : Nat → Nat} {t n Q : Nat} {le qu : Nat → Int32} (ht : t ≤ 99) (hle : ∀ i, i < t → le i = nI (f i) ∧ f i < 256) (hn1 : 1 ≤ n) (hn8 : n ≤ 8) (hf1 : f 1 = 48 + n) (h18 : 18 ≤ t) (hQ : t = 18 + (n + 1) * Q) (hQ8 : Q ≤ 8) {K : Int32 → (Nat → Int32) → Prop}
    (hK : ∀ qu', (∀ i, i < Q → qu' i = lv f (18 + (n + 1) * i) n) → K (nI Q) qu') : P_X6_tellQueue (nI t) le 0 qu K := by
  unfold P_X6_tellQueue
  refine sp_lineLength (hle 1 (by omega)).1 (by omega) (by omega) ?_
  rw [show f 1 - 47 = n + 1 by omega]
  have inner : ∀ (b : Nat) (C : Int32 → Prop), b + 1 + n ≤ t → C (lv f b n) → ∃ ne : Nat, P_X6_tellQueue_L24 le (nI (n + 1)) (nI b) C ne 0 0 := by
    intro b C hb hC
    refine cnt_itr (P := fun fu i s => P_X6_tellQueue_L24 le (nI (n + 1)) (nI b) C fu s i) n (by omega) (fun d x => if f (b + 1 + d) = 111 then x ||| ((1 : Int32) <<< (nI d &&& (31 : Int32))) else x) 0 ?_ ?_
    · intro fu
      unfold P_X6_tellQueue_L24
      rw [nI_1]
      exact br_t (nI_le (by omega) (by omega)) hC
    · intro fu d x hd _ hp
      unfold P_X6_tellQueue_L24
      rw [nI_1]
      refine br_f (nI_ge (by omega) (by omega)) ?_
      rw [nI_1, nI_add, nI_clamp (by omega : b + 1 + d < 2 ^ 31)]
      obtain ⟨ee, hh⟩ := hle (b + 1 + d) (by omega)
      rw [ee]
      refine ⟨vp_in_nI (by omega) (by omega), fun z => ?_, fun z => ?_⟩
      · rw [if_neg (fun y => z (by rw [y]; rfl))] at hp
        exact hp
      · rw [if_pos (nI_lit (b := 111) (by omega) (by omega) z)] at hp
        exact hp
  have key : ∀ m j qu, j + m = Q → (∀ i, i < j → qu i = lv f (18 + (n + 1) * i) n) → P_X6_tellQueue_L8 (nI t) le (nI (n + 1)) (fun a b => K a b) (m + 1) (nI (18 + (n + 1) * j)) (nI j) qu := by
    intro m
    induction m with
    | zero =>
      intro j qu hj hqu
      unfold P_X6_tellQueue_L8
      have e : j = Q := by omega
      subst e
      rw [nI_add]
      exact br_t (nI_lt (by omega) (by omega)) (hK _ hqu)
    | succ m ih =>
      intro j qu hj hqu
      unfold P_X6_tellQueue_L8
      have hmul : (n + 1) * (j + 1) ≤ (n + 1) * Q := Nat.mul_le_mul_left _ (by omega)
      rw [Nat.mul_succ] at hmul
      rw [nI_add]
      refine br_f (nI_nlt (by omega) (by omega)) (inner _ _ (by omega) ?_)
      unfold P_X5_append
      refine br_f (nI_ge (b := 8) (by omega) (by omega)) ⟨vp_in_nI (by omega) (by omega), ?_⟩
      rw [nI_1, nI_clamp (by omega : j < 2 ^ 31)]
      have h := ih (j + 1) (upd qu j (lv f (18 + (n + 1) * j) n)) (by omega) (fun i hi' => by
        rw [upd_at]
        by_cases h : i = j
        · rw [if_pos h, h]
        · rw [if_neg h]; exact hqu i (by omega))
      rw [show 18 + (n + 1) * (j + 1) = 18 + (n + 1) * j + (n + 1) by rw [Nat.mul_succ]; omega] at h
      exact h
  have h := key Q 0 qu (by omega) (fun i hi' => absurd hi' (by omega))
  rw [Nat.mul_zero, nI_0] at h
  exact ⟨Q + 1, h⟩
