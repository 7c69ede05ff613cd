/-! ===== the law's loop: every case keeps the relation ===== -/
theorem ex_lt {L k : Nat} (hL : L ≤ 2048) (hk : k ≤ 2048) (h : L ≤ k + 3) : nI L - 4 < nI k := by
  refine Int32.lt_iff_toInt_lt.mpr ?_
  rw [show (4 : Int32) = nI 4 from rfl, pk_sub_toInt (by omega) (by omega), nI_toInt (by omega)]
  omega
theorem ex_ge {L k : Nat} (hL : L ≤ 2048) (hk : k ≤ 2048) (h : ¬ L ≤ k + 3) : ¬ nI L - 4 < nI k := by
  intro z
  have := Int32.lt_iff_toInt_lt.mp z
  rw [show (4 : Int32) = nI 4 from rfl, pk_sub_toInt (by omega) (by omega), nI_toInt (by omega)] at this
  omega
theorem R_acts.none {n n' : Nat} {fi co : Int32} {H F Q I : Nat → Nat → Int32} {ma mx : Int32} {di : Nat → Int32} (h : R_acts n fi co H F Q I ma mx di) : R_acts n' fi 0 H F Q I 0 mx di := by
  obtain ⟨a, f, x, ha, hf, hx, e1, e2, e3, e4, hR⟩ := h
  exact ⟨0, f, x, by omega, hf, hx, e1, rfl, rfl, e4, fun j hj => absurd hj (by omega)⟩
theorem R_slots.none {n : Nat} {H F Q I : Nat → Nat → Int32} {fl kp ik : Nat → Int32} (h1 : ∀ k, k < 2 → fl k = 0) (h2 : ∀ k, k < 2 → ik k = 0) : R_slots n H F Q I fl kp ik := fun k hk => ⟨(h1 k hk).trans (h2 k hk).symm, fun z => absurd (h1 k hk) z⟩
theorem R_txt.same {tl ml : Int32} {le mt : Nat → Int32} (h : R_txt tl le ml mt) : ml = tl := by
  obtain ⟨t, ht, e1, e2, hR⟩ := h
  rw [e1, e2]
theorem R_acts.same {n : Nat} {fi co : Int32} {H F Q I : Nat → Nat → Int32} {ma mx : Int32} {di : Nat → Int32} (h : R_acts n fi co H F Q I ma mx di) : ma = co := by
  obtain ⟨a, f, x, ha, hf, hx, e1, e2, e3, e4, hR⟩ := h
  rw [e2, e3]
theorem R_see.same {co : Int32} {sd sl sh : Nat → Int32} {mc : Int32} {md ml mh : Nat → Int32} (h : R_see co sd sl sh mc md ml mh) : mc = co := by
  obtain ⟨s, hs, e1, e2, hR⟩ := h
  rw [e1, e2]
set_option maxHeartbeats 8000000 in
set_option maxRecDepth 100000 in
theorem law_go {L : Nat} (hL : L ≤ 2048) {xs : Nat → Int32} : ∀ (m : Nat) {k n pw q : Nat} {x3 : Int32} {sd : Int64} {tl c lo hi gh qd la be ri a b d g pr tq tla tbe tri ta tb1 td tg tpr rq rla rbe rri ra rb1 rd1 rg rpr fi co sc ml ma mx mc rD rC rP rM lA : Int32} {le p hs fg qu th tf tu rh rf ru ti sp s1 s2 s3 fl mt0 r t8 di kp ik m1 m2 m3 mp mo ms1 mw rL rT rI : Nat → Int32} {SH SF SQ SI H F Q I : Nat → Nat → Int32}, x3 = nI k → k ≤ L → L ≤ k + 4 * m + 3 → 1 ≤ n → n ≤ 8 → 1 ≤ pw → pw ≤ 8 →
    R_txt tl le ml mt0 → CR n q qd la be ri a b d g pr hs fg qu r → Z30 r → Z30 t8 → R_acts n fi co H F Q I ma mx di → R_see sc s1 s2 s3 mc m1 m2 m3 → R_slots n SH SF SQ SI fl kp ik →
    P_LL L xs (m + 1) x3 sd tl le (nI n) c (nI pw) lo hi gh p qd la be ri a b d g pr hs fg qu tq tla tbe tri ta tb1 td tg tpr th tf tu rq rla rbe rri ra rb1 rd1 rg rpr rh rf ru ti sp fi co sc s1 s2 s3 SH SF SQ SI fl ml (nI n) c (nI pw) lo hi gh ma mx mc sd 0 rD rC rP rM lA mt0 r t8 di kp ik m1 m2 m3 mp mo ms1 mw rL rT rI H F Q I := by
  intro m
  induction m with
  | zero =>
    intro k n pw q x3 sd tl c lo hi gh qd la be ri a b d g pr tq tla tbe tri ta tb1 td tg tpr rq rla rbe rri ra rb1 rd1 rg rpr fi co sc ml ma mx mc rD rC rP rM lA le p hs fg qu th tf tu rh rf ru ti sp s1 s2 s3 fl mt0 r t8 di kp ik m1 m2 m3 mp mo ms1 mw rL rT rI SH SF SQ SI H F Q I hx hkL hm h1 hn hp1 hp8 hT hC hz hzt hA hS hSl
    unfold P_LL
    exact ⟨fun _ => trivial, fun z => absurd (by rw [hx]; exact ex_lt hL (by omega) (by omega)) z⟩
  | succ m ih =>
    intro k n pw q x3 sd tl c lo hi gh qd la be ri a b d g pr tq tla tbe tri ta tb1 td tg tpr rq rla rbe rri ra rb1 rd1 rg rpr fi co sc ml ma mx mc rD rC rP rM lA le p hs fg qu th tf tu rh rf ru ti sp s1 s2 s3 fl mt0 r t8 di kp ik m1 m2 m3 mp mo ms1 mw rL rT rI SH SF SQ SI H F Q I hx hkL hm h1 hn hp1 hp8 hT hC hz hzt hA hS hSl
    unfold P_LL
    refine ⟨fun _ => trivial, fun z => ?_⟩
    have h4 : ¬ L ≤ k + 3 := fun y => z (by rw [hx]; exact ex_lt hL (by omega) y)
    have nx : x3 + 4 = nI (k + 4) := by rw [hx]; exact nI_add k 4
    have hk4 : k + 4 ≤ L := by omega
    have hm4 : L ≤ k + 4 + 4 * m + 3 := by omega
    have hb0 : vp_in x3 L := by rw [hx]; exact vp_in_nI (by omega) (by omega)
    have hb1 : vp_in (x3 + 1) L := by rw [hx, nI_1]; exact vp_in_nI (by omega) (by omega)
    have hb2 : vp_in (x3 + 2) L := by rw [hx, show (2 : Int32) = nI 2 from rfl, nI_add]; exact vp_in_nI (by omega) (by omega)
    have hb3 : vp_in (x3 + 3) L := by rw [hx, show (3 : Int32) = nI 3 from rfl, nI_add]; exact vp_in_nI (by omega) (by omega)
    clear z
    refine ⟨hb0, fun _ => ?_, fun _ => ?_, fun _ => ?_, fun _ => ?_, fun _ => ?_, fun _ => ?_, fun _ => ?_, fun _ => ?_, fun _ => ?_, fun _ => ?_, fun _ => ?_, fun _ => ?_, fun _ => ?_, fun _ => ?_, fun _ => ?_, fun _ => ?_, fun _ => ?_, fun _ => ?_, fun _ => ?_, fun _ => ?_, fun _ => ?_, fun _ => ?_, fun _ => ?_, fun _ => ?_, fun _ => ?_, fun _ => ?_, fun _ => ?_⟩
    · exact ih nx hk4 hm4 h1 hn hp1 hp8 hT hC hz hzt hA hS hSl
    · exact rt_write hb1 hT (fun _ _ _ _ h => ih nx hk4 hm4 h1 hn hp1 hp8 h hC hz hzt hA hS hSl)
    · exact rt_wipe hT (fun _ _ h => ih nx hk4 hm4 h1 hn hp1 hp8 h hC hz hzt hA hS hSl)
    · exact rt_fault hT (fun _ _ _ _ _ _ _ _ => ih nx hk4 hm4 h1 hn hp1 hp8 hT hC hz hzt hA hS hSl)
    · exact rt_job hT hz (fun _ _ _ _ _ _ _ _ => ih nx hk4 hm4 h1 hn hp1 hp8 hT hC hz hzt hA hS hSl) (fun _ _ _ _ _ _ _ _ _ _ _ _ _ _ _ _ _ _ _ _ _ n1 n8 c1 c4 w1 w8 C' z' f0 i0 => ih nx hk4 hm4 n1 n8 w1 w8 hT C' z' hzt hA.none hS (R_slots.none f0 i0))
    · exact by have e1 := hT.same; have e2 := hA.same; have e3 := hS.same; subst e1; subst e2; subst e3; exact rt_about hn hp1 hp8 hb1 hC hz hzt (fun _ _ _ _ _ _ _ _ _ _ _ _ _ _ _ _ _ _ _ _ _ _ _ _ _ _ _ _ _ _ _ t => ih nx hk4 hm4 h1 hn hp1 hp8 hT hC hz t hA hS hSl)
    · exact rt_heat h1 hn hb1 hC (ih nx hk4 hm4 h1 hn hp1 hp8 hT hC hz hzt hA hS hSl)
    · exact rt_table hb1 hC (ih nx hk4 hm4 h1 hn hp1 hp8 hT hC hz hzt hA hS hSl)
    · exact rt_line hn hp1 hp8 hb1 hb2 hC (fun _ _ _ _ _ _ => ih nx hk4 hm4 h1 hn hp1 hp8 hT hC hz hzt hA hS hSl)
    · exact rt_put hn hb1 hC hA hz (fun _ _ _ _ _ _ _ _ _ _ _ _ _ z' C' A' => ih nx hk4 hm4 h1 hn hp1 hp8 hT C' z' hzt A' hS hSl)
    · exact rt_print hn hb1 hC hA hz (fun _ _ _ _ _ _ _ _ _ _ _ _ _ _ _ _ _ _ _ _ _ _ _ _ z' C' A' => ih nx hk4 hm4 h1 hn hp1 hp8 hT C' z' hzt A' hS hSl)
    · exact rt_pause hn hb1 hC hA hz (fun _ _ _ _ _ _ _ _ _ _ _ z' C' A' => ih nx hk4 hm4 h1 hn hp1 hp8 hT C' z' hzt A' hS hSl)
    · exact rt_set hn hb1 hb2 hC hA hz (fun _ _ _ _ _ _ _ _ _ _ _ z' C' A' => ih nx hk4 hm4 h1 hn hp1 hp8 hT C' z' hzt A' hS hSl)
    · exact rt_ribbon hn hb1 hC hA hz (fun _ _ _ _ _ _ _ _ _ _ _ z' C' A' => ih nx hk4 hm4 h1 hn hp1 hp8 hT C' z' hzt A' hS hSl)
    · exact rt_undo hn hC hA hz (fun _ _ _ _ _ _ _ _ _ _ _ _ _ _ _ _ _ z' C' A' => ih nx hk4 hm4 h1 hn hp1 hp8 hT C' z' hzt A' hS hSl)
    · exact rt_ahead h1 hn hb1 hb2 hC hz hzt (fun _ _ _ _ _ _ _ _ _ _ _ _ _ _ _ t => ih nx hk4 hm4 h1 hn hp1 hp8 hT hC hz t hA hS hSl)
    · exact rt_fit hn hb1 hC hz hzt (fun _ _ _ _ _ _ _ _ _ _ _ _ _ _ _ t => ih nx hk4 hm4 h1 hn hp1 hp8 hT hC hz t hA hS hSl)
    · exact rt_judge h1 hn hb1 hb2 hb3 hC hz hzt (fun _ _ _ _ _ _ _ _ _ _ _ _ _ _ _ t => ih nx hk4 hm4 h1 hn hp1 hp8 hT hC hz t hA hS hSl)
    · exact rt_see h1 hn hb1 hb2 hb3 hS (fun _ _ _ _ _ _ _ _ S' => ih nx hk4 hm4 h1 hn hp1 hp8 hT hC hz hzt hA S' hSl)
    · exact rt_unsee hS (fun _ _ S' => ih nx hk4 hm4 h1 hn hp1 hp8 hT hC hz hzt hA S' hSl)
    · exact rt_which h1 hn hC hz hzt hS (fun _ _ _ _ _ _ _ _ _ _ _ _ _ _ _ t => ih nx hk4 hm4 h1 hn hp1 hp8 hT hC hz t hA hS hSl)
    · exact rt_share h1 hn hb1 hb2 hC hz hzt (fun _ _ _ _ _ _ _ _ _ _ _ _ _ _ _ _ t => ih nx hk4 hm4 h1 hn hp1 hp8 hT hC hz t hA hS hSl)
    · exact rt_chance hn hb1 hb2 hb3 hC hz hzt (fun _ _ _ _ _ _ _ _ _ _ _ _ _ _ _ t => ih nx hk4 hm4 h1 hn hp1 hp8 hT hC hz t hA hS hSl)
    · exact rt_seed hb1 hb2 (fun _ => ih nx hk4 hm4 h1 hn hp1 hp8 hT hC hz hzt hA hS hSl)
    · exact rt_drawn hn hb1 hC hz hzt (fun _ _ _ _ _ _ _ _ _ _ _ _ _ _ _ _ t => ih nx hk4 hm4 h1 hn hp1 hp8 hT hC hz t hA hS hSl)
    · exact rt_keep hn hb1 hC hSl (fun _ _ _ _ _ _ _ s => ih nx hk4 hm4 h1 hn hp1 hp8 hT hC hz hzt hA hS s)
    · exact rt_again hn hb1 hC hSl hA hz (fun _ _ _ _ _ _ _ _ _ _ _ _ _ _ _ _ z' C' A' => ih nx hk4 hm4 h1 hn hp1 hp8 hT C' z' hzt A' hS hSl)
set_option maxHeartbeats 4000000 in
set_option maxRecDepth 100000 in
theorem law_ok (L : Nat) (hL : L ≤ 2048) (xs : Nat → Int32) : ∃ n : Nat, P_LL L xs n (0 : Int32) 0 0 (fun _ => 0) (1 : Int32) (1 : Int32) (1 : Int32) 0 0 0 (fun _ => 0) 0 0 0 0 0 0 0 0 0 (fun _ => 0) (fun _ => 0) (fun _ => 0) 0 0 0 0 0 0 0 0 0 (fun _ => 0) (fun _ => 0) (fun _ => 0) 0 0 0 0 0 0 0 0 0 (fun _ => 0) (fun _ => 0) (fun _ => 0) (fun _ => 0) (fun _ => 0) 0 0 0 (fun _ => 0) (fun _ => 0) (fun _ => 0) (fun _ _ => 0) (fun _ _ => 0) (fun _ _ => 0) (fun _ _ => 0) (fun _ => 0) 0 (1 : Int32) (1 : Int32) (1 : Int32) 0 0 0 0 0 0 0 0 0 0 0 0 0 (fun _ => 0) (fun _ => 0) (fun _ => 0) (fun _ => 0) (fun _ => 0) (fun _ => 0) (fun _ => 0) (fun _ => 0) (fun _ => 0) (fun _ => 0) (fun _ => 0) (fun _ => 0) (fun _ => 0) (fun _ => 0) (fun _ => 0) (fun _ => 0) (fun _ _ => 0) (fun _ _ => 0) (fun _ _ => 0) (fun _ _ => 0) := by
  have hT : R_txt 0 (fun _ => 0) 0 (fun _ => 0) := ⟨0, by omega, rfl, rfl, fun i hi => absurd hi (by omega)⟩
  have hF : FG (fun _ => 0) := ⟨fun i _ => ⟨0, by omega, rfl⟩, fun i _ => Int32.le_refl 0⟩
  have hC : CR 1 0 0 0 0 0 0 0 0 0 0 (fun _ => 0) (fun _ => 0) (fun _ => 0) (fun _ => 0) := ⟨⟨fun _ _ => rfl, fun _ _ => rfl, rfl, rfl, rfl, rfl, rfl, rfl, rfl⟩, rfl, by omega, rfl, fun i hi => absurd hi (by omega), rfl, ⟨0, by omega, rfl⟩, fun _ _ _ => rfl, hF⟩
  have hz : Z30 (fun _ => 0) := fun _ _ => rfl
  have hA : R_acts 1 0 0 (fun _ _ => 0) (fun _ _ => 0) (fun _ _ => 0) (fun _ _ => 0) 0 0 (fun _ => 0) := ⟨0, 0, 0, by omega, by omega, by omega, rfl, rfl, rfl, rfl, fun j hj => absurd hj (by omega)⟩
  have hS : R_see 0 (fun _ => 0) (fun _ => 0) (fun _ => 0) 0 (fun _ => 0) (fun _ => 0) (fun _ => 0) := ⟨0, by omega, rfl, rfl, fun i hi => absurd hi (by omega)⟩
  have hSl : R_slots 1 (fun _ _ => 0) (fun _ _ => 0) (fun _ _ => 0) (fun _ _ => 0) (fun _ => 0) (fun _ => 0) (fun _ => 0) := R_slots.none (fun _ _ => rfl) (fun _ _ => rfl)
  exact ⟨L + 1, law_go hL L (k := 0) (n := 1) (pw := 1) rfl (by omega) (by omega) (by omega) (by omega) (by omega) (by omega) hT hC hz hz hA hS hSl⟩
