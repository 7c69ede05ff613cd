/-! ===== making: objects and arrays, constructors ===== -/
def g_at (Γ : g_C) (kc ks : Nat) : g_C := (Γ.1, Γ.2.1, Γ.2.2.1, Γ.2.2.2.1, Γ.2.2.2.2.1, Γ.2.2.2.2.2.1, Γ.2.2.2.2.2.2.1, Γ.2.2.2.2.2.2.2.1, Γ.2.2.2.2.2.2.2.2.1, Γ.2.2.2.2.2.2.2.2.2.1, Γ.2.2.2.2.2.2.2.2.2.2.1, kc, ks, Γ.2.2.2.2.2.2.2.2.2.2.2.2.2)
def g_ini (Γ : g_C) : Prop := Γ.2.2.2.2.2.2.2.1.name = "<init>"
theorem gw_arrI : Cond.arrayClass .int ∈ lw_gw := gw_mem 75 (by decide +kernel) (by decide +kernel)
theorem gw_arrZ : Cond.arrayClass .boolean ∈ lw_gw := gw_mem 262 (by decide +kernel) (by decide +kernel)
theorem gw_oi_i : Cond.instanceMethod objectInit ∈ lw_gw := gw_mem 59 (by decide +kernel) (by decide +kernel)
theorem gw_oi_c : Cond.code objectInit ⟨#[0xb1]⟩ 1 none ∈ lw_gw := gw_mem 60 (by decide +kernel) (by decide +kernel)
section Alloc
variable {Γ : g_C} {R : Room} {cc : ByteArray} {own : String} {nL kc ks : Nat} {ls : List (Nat × Value)} {st : List Value} {ws : va_W}
theorem g_X.at (X : g_X Γ R cc own nL) {kc ks : Nat} (h1 : kc ≤ R.cells) (h2 : ks ≤ R.slots) : g_X (g_at Γ kc ks) R cc own nL := by
  obtain ⟨p, l, e, s, m, args, below, meth, c, E, A, k0, s0, Q⟩ := Γ
  obtain ⟨hx, hb, hml, hown, hts, hK, hE, hA, hkc, hks⟩ := X
  exact ⟨hx, hb, hml, hown, hts, hK, hE, hA, h1, h2⟩
theorem g_widen (pc kc1 ks1 : Nat) (h1 : kc ≤ kc1) (h2 : ks ≤ ks1) (kk : g_G (g_at Γ kc1 ks1) R nL pc ls st ws) : g_G (g_at Γ kc ks) R nL pc ls st ws := by
  obtain ⟨p, l, e, s, m, args, below, meth, c, E, A, k0, s0, Q⟩ := Γ
  intro H locs la hP hD hS hl
  exact W.widen h1 h2 (kk H locs la hP hD hS hl)

def g_NA (own : String) (idx ci N : Nat) (fs : List Value) : Prop := ∃ (C : String) (T : u_T) (ty : Nat → FieldType), vwCl[ci]? = some (C, T, N) ∧ (∀ w ∈ u_ws C T N, w ∈ lw_gw) ∧ (∀ k, k < N → parseFieldDescriptor (T k).2.2.1 = some (ty k)) ∧ Cond.classLink own idx C ∈ lw_gw ∧ Cond.instantiable C N ∈ lw_gw ∧ Cond.initialized C ∈ lw_gw ∧ (∀ j, j < N → defaultValue (ty j) = vp_V fs j)
theorem g_new (pc : Nat) (X : g_X (g_at Γ kc ks) R cc own nL) {idx ci N : Nat} {fs : List Value} (na : g_NA own idx ci N fs) (kc1 ks1 : Nat) (e1 : kc + 1 = kc1) (e2 : ks + N = ks1) (h1 : kc1 ≤ R.cells) (h2 : ks1 ≤ R.slots) (hdg : decode cc pc = .ok (.new idx, 3)) (kk : ∀ q : Nat, g_G (g_at Γ kc1 ks1) R nL (pc + 3) ls (.ref q :: st) (ws ++ [(q, .inr (ci, fs))])) : g_G (g_at Γ kc ks) R nL pc ls st ws := by
  obtain ⟨p, l, e, s, m, args, below, meth, c, E, A, k0, s0, Q⟩ := Γ
  obtain ⟨hx, hb, hml, hown, hts, hK, hE, hA, hkc, hks⟩ := X
  intro H locs la hP hD hS hl
  subst e1; subst e2
  obtain ⟨C, T, ty, g1, g2, g3, g4, g5, g6, g7⟩ := na
  exact va_new hx hb hts g2 ty g3 hown (hts _ g4) (hts _ g5) (hts _ g6) hK hP hD hS hA g1 g7 h1 h2 hdg (fun q H1 hP1 hD1 hS1 => kk q H1 locs la hP1 hD1 hS1 hl)

theorem g_newI (pc : Nat) (X : g_X (g_at Γ kc ks) R cc own nL) {n : Int32} (N kc1 ks1 : Nat) (hn : ¬ n < 0) (hN : n.toNatClampNeg = N) (hbt : N * componentBytes .int ≤ 536870912) (e1 : kc + 1 = kc1) (e2 : ks + N = ks1) (h1 : kc1 ≤ R.cells) (h2 : ks1 ≤ R.slots) (hdg : decode cc pc = .ok (.newarray .int, 2)) (kk : ∀ q : Nat, g_G (g_at Γ kc1 ks1) R nL (pc + 2) ls (.ref q :: st) (ws ++ [(q, .inl ((g_env Γ).2.1, N, .inl (fun _ => 0)))])) : g_G (g_at Γ kc ks) R nL pc ls (.int n :: st) ws := by
  obtain ⟨p, l, e, s, m, args, below, meth, c, E, A, k0, s0, Q⟩ := Γ
  obtain ⟨hx, hb, hml, hown, hts, hK, hE, hA, hkc, hks⟩ := X
  intro H locs la hP hD hS hl
  subst e1; subst e2
  refine va_newa (atype := .int) (ty := .int) (a0 := (N, .inl (fun _ => 0))) hx hb (hts _ gw_arrI) rfl hK hP hD hS hA (fun _ => rfl) hn hN hbt h1 h2 hdg (fun q cA H1 hK1 hP1 hD1 hS1 => ?_)
  have hc : cA = E.2.1 := by
    have k1 := (hK1.2 3 (cA, .int) rfl).2
    have k2 := (hK.2 0 (E.2.1, .int) rfl).2
    exact Option.some.inj (k1.symm.trans k2)
  subst hc
  exact kk q H1 locs la hP1 hD1 hS1 hl

theorem g_newZ (pc : Nat) (X : g_X (g_at Γ kc ks) R cc own nL) {n : Int32} (N kc1 ks1 : Nat) (hn : ¬ n < 0) (hN : n.toNatClampNeg = N) (hbt : N * componentBytes .boolean ≤ 536870912) (e1 : kc + 1 = kc1) (e2 : ks + N = ks1) (h1 : kc1 ≤ R.cells) (h2 : ks1 ≤ R.slots) (hdg : decode cc pc = .ok (.newarray .boolean, 2)) (kk : ∀ q : Nat, g_G (g_at Γ kc1 ks1) R nL (pc + 2) ls (.ref q :: st) (ws ++ [(q, .inl ((g_env Γ).2.2.1, N, .inl (fun _ => 0)))])) : g_G (g_at Γ kc ks) R nL pc ls (.int n :: st) ws := by
  obtain ⟨p, l, e, s, m, args, below, meth, c, E, A, k0, s0, Q⟩ := Γ
  obtain ⟨hx, hb, hml, hown, hts, hK, hE, hA, hkc, hks⟩ := X
  intro H locs la hP hD hS hl
  subst e1; subst e2
  refine va_newa (atype := .boolean) (ty := .boolean) (a0 := (N, .inl (fun _ => 0))) hx hb (hts _ gw_arrZ) rfl hK hP hD hS hA (fun _ => rfl) hn hN hbt h1 h2 hdg (fun q cA H1 hK1 hP1 hD1 hS1 => ?_)
  have hc : cA = E.2.2.1 := by
    have k1 := (hK1.2 3 (cA, .boolean) rfl).2
    have k2 := (hK.2 1 (E.2.2.1, .boolean) rfl).2
    exact Option.some.inj (k1.symm.trans k2)
  subst hc
  exact kk q H1 locs la hP1 hD1 hS1 hl

theorem g_newS (pc : Nat) (X : g_X (g_at Γ kc ks) R cc own nL) {n : Int32} {idx : Nat} (N kc1 ks1 : Nat) (hcl : Cond.classLink own idx "HeatLines$State" ∈ lw_gw) (hn : ¬ n < 0) (hN : n.toNatClampNeg = N) (hbt : N * 4 ≤ 536870912) (e1 : kc + 1 = kc1) (e2 : ks + N = ks1) (h1 : kc1 ≤ R.cells) (h2 : ks1 ≤ R.slots) (hdg : decode cc pc = .ok (.anewarray idx, 3)) (kk : ∀ q : Nat, g_G (g_at Γ kc1 ks1) R nL (pc + 3) ls (.ref q :: st) (ws ++ [(q, .inl ((g_env Γ).2.2.2.1, N, .inr (.inr (.inr (.inr (fun _ => none))))))])) : g_G (g_at Γ kc ks) R nL pc ls (.int n :: st) ws := by
  obtain ⟨p, l, e, s, m, args, below, meth, c, E, A, k0, s0, Q⟩ := Γ
  obtain ⟨hx, hb, hml, hown, hts, hK, hE, hA, hkc, hks⟩ := X
  intro H locs la hP hD hS hl
  subst e1; subst e2
  refine va_newq hx hb hown (hts _ hcl) hE.2.2.2 hK hP hD hS hA hn hN hbt h1 h2 hdg (fun q cA H1 hK1 hP1 hD1 hS1 => ?_)
  have hc : cA = E.2.2.2.1 := by
    obtain ⟨kA, comp, -, -, -, k1⟩ := (hK1.2 3 (cA, .object "HeatLines$State") rfl).2
    obtain ⟨kB, comp2, -, -, -, k2⟩ := (hK.2 2 (E.2.2.2.1, .object "HeatLines$State") rfl).2
    exact Option.some.inj (k1.symm.trans k2)
  subst hc
  exact kk q H1 locs la hP1 hD1 hS1 hl
theorem g_aast (pc : Nat) (X : g_X Γ R cc own nL) {a n v : Nat} {vs : List Value} {f : Nat → Option Nat} {i : Int32} {cA : ClassId} (ws1 : va_W) (hdg : decode cc pc = .ok (.aastore, 1)) (q0 qk : Nat) (ha : ws[q0]? = some (a, .inl (cA, n, .inr (.inr (.inr (.inr f)))))) (hc : g_clS Γ = cA) (hv : ws[qk]? = some (v, .inr (5, vs))) (hi : vp_in i n) (k1 : Nat) (ek : i.toNatClampNeg = k1) (h1 : ws.set q0 (a, .inl (cA, n, .inr (.inr (.inr (.inr (va_up f k1 (some v))))))) = ws1) (kk : g_G Γ R nL (pc + 1) ls st ws1) : g_G Γ R nL pc ls (.ref v :: .int i :: .ref a :: st) ws := by
  obtain ⟨p, l, e, s, m, args, below, meth, c, E, A, k0, s0, Q⟩ := Γ
  obtain ⟨hx, hb, hml, hown, hts, hK, hE, hA, hkc, hks⟩ := X
  intro H locs la hP hD hS hl
  subst ek; subst h1
  exact va_astq hx hb hK hP hD hS q0 2 qk 5 (r := (RX5, TX5, 12)) ha (by rw [← hc]; rfl) hv rfl hi hdg (fun H1 locs1 hP1 hD1 hS1 => kk H1 locs1 la hP1 hD1 hS1 hl)
def g_PF (own : String) (ci k : Nat) (ty : FieldType) : Prop := ∃ (C : String) (T : u_T) (N : Nat) (ty0 : Nat → FieldType), vwCl[ci]? = some (C, T, N) ∧ (∀ k, k < N → parseFieldDescriptor (T k).2.2.1 = some (ty0 k)) ∧ (∀ a, a < N → ∀ b, b < N → a ≠ b → (T a).2.1 ≠ (T b).2.1) ∧ (T k).2.2.2 = true ∧ (T k).1 = own ∧ parseFieldDescriptor (T k).2.2.1 = some ty
theorem g_putF (pc : Nat) (X : g_X Γ R cc own nL) (hin : g_ini Γ) {idx ci k a : Nat} {fs : List Value} {v : Value} {ty : FieldType} (ws1 : va_W) (fa : g_FA own idx ci k) (pa : g_PF own ci k ty) (hdg : decode cc pc = .ok (.putfield idx, 3)) (q0 : Nat) (he : ws[q0]? = some (a, .inr (ci, fs))) (hn : narrow ty v = v) (hf : fits ty v = true) (hl0 : k < fs.length) (h1 : ws.set q0 (a, .inr (ci, fs.set k v)) = ws1) (kk : g_G Γ R nL (pc + 3) ls st ws1) : g_G Γ R nL pc ls (v :: .ref a :: st) ws := by
  obtain ⟨p, l, e, s, m, args, below, meth, c, E, A, k0, s0, Q⟩ := Γ
  obtain ⟨hx, hb, hml, hown, hts, hK, hE, hA, hkc, hks⟩ := X
  intro H locs la hP hD hS hl
  obtain ⟨C, T, N, g1, g2, g3, g4⟩ := fa
  obtain ⟨C', T', N', ty0, k1, k2, k3, k4, k6, k5⟩ := pa
  rw [g1] at k1
  cases k1
  subst h1
  exact va_putF hx hb hts g3 ty0 k2 k3 hown hK hP hD hS q0 he g1 k g2 (hts _ g4) (fun _ h => h) k4 hin k6 k5 hn hf hl0 hdg (fun H1 locs1 hP1 hD1 hS1 => kk H1 locs1 la hP1 hD1 hS1 hl)
theorem g_obj (pc : Nat) (X : g_X Γ R cc own nL) {idx a : Nat} (hdg : decode cc pc = .ok (.invokespecial idx, 3)) (hlk : Cond.methodLink own idx objectInit ∈ lw_gw) (hf : 1 ≤ R.frames) (ho : (st.map fun v => v.category).sum + 12 ≤ R.locals) (kk : g_G Γ R nL (pc + 3) ls st ws) : g_G Γ R nL pc ls (.ref a :: st) ws := by
  obtain ⟨p, l, e, s, m, args, below, meth, c, E, A, k0, s0, Q⟩ := Γ
  obtain ⟨hx, hb, hml, hown, hts, hK, hE, hA, hkc, hks⟩ := X
  intro H locs la hP hD hS hl
  refine W.objInit hx hb hown (hts _ hlk) (hts _ gw_oi_i) (hts _ gw_oi_c) rfl (by rw [hml]; exact hl.1) rfl hdg (Nat.le_trans (Nat.zero_lt_succ _) hf) ?_ ?_
  · show _ ≤ R.locals; simpa using ho
  · exact W.eq (g2 := F0 m (pc + 3) la st) rfl (kk H locs la hP hD hS hl)
end Alloc
def g_CN (l : Launch) (E : g_E) (y : MethodName) (cc : ByteArray) (nL : Nat) (f lo : Nat) (av : List Value) (ws : va_W) {S : Type} (K : S → Prop) (B : S → va_W) (mc ms : Nat) : Prop :=
  ∀ sz : Nat, Met l y (.code y cc nL none :: lw_gw) { frames := f, cells := mc, slots := ms, locals := lo } (va_Pc av (g_Pre E ws sz)) (va_Qv K (fun u t => g_Post E ws (B u) sz t) (va_A ws sz)) mc ms (va_A ws sz)
theorem g_entN {l : Launch} {E : g_E} {y : MethodName} {cc : ByteArray} {nL f lo : Nat} {av : List Value} {ws : va_W} {S : Type} {K : S → Prop} {B : S → va_W} {mc ms : Nat} (own : String) (hy : plainName y.cls = true) (hc : y.cls = own) (hyn : y.name = "<init>") (hlen : (lg_sl av).length ≤ nL)
    (h : ∀ Γ : g_C, g_X (g_at Γ 0 0) { frames := f, cells := mc, slots := ms, locals := lo } cc own nL → g_env Γ = E → Γ.2.1 = l → g_ini Γ → (∀ (pc : Nat) (ls : List (Nat × Value)) (u : S), decode cc pc = .ok (.return_, 1) → K u → g_G (g_at Γ mc ms) { frames := f, cells := mc, slots := ms, locals := lo } nL pc ls [] (B u)) → g_G (g_at Γ 0 0) { frames := f, cells := mc, slots := ms, locals := lo } nL 0 (lv_args 0 av) [] ws) : g_CN l E y cc nL f lo av ws K B mc ms := by
  intro sz
  refine Met.ofW (cc := cc) (maxL := nL) (ret := none) hy rfl ?_
  intro p e s m args below meth c s₁ B' hml hv
  obtain ⟨rfl, hsz, hP, hK, hD0, hE⟩ := hv
  subst hsz
  have hD := hD0.self (sz := s.heap.size)
  have hA : ∀ q : Nat, s.heap.size ≤ q → va_A ws s.heap.size q := fun q h => Or.inr h
  have hin : meth.name = "<init>" := (name_of_methodNamed B'.named B'.method).1.trans hyn
  have hX : g_X (p, l, e, s, m, av.toArray, below, meth, c, E, va_A ws s.heap.size, 0, 0, MQ below (va_Qv K (fun u t => g_Post E ws (B u) s.heap.size t) (va_A ws s.heap.size)) av.toArray s mc ms (va_A ws s.heap.size)) { frames := f, cells := mc, slots := ms, locals := lo } cc own nL :=
    ⟨B'.exec, B'.bytes, hml, hc ▸ findClass_of_methodNamed B'.named, fun w hw => atoms_spec (ws := .code y cc nL none :: lw_gw) B'.pre w (List.mem_cons_of_mem _ hw), hK, hE, hA, Nat.zero_le _, Nat.zero_le _⟩
  have hg := h (p, l, e, s, m, av.toArray, below, meth, c, E, va_A ws s.heap.size, 0, 0, MQ below (va_Qv K (fun u t => g_Post E ws (B u) s.heap.size t) (va_A ws s.heap.size)) av.toArray s mc ms (va_A ws s.heap.size)) hX rfl rfl hin (by
    intro pc ls u hd hk H locs la hP hD hS hl
    exact W.vret B'.exec B'.bytes B'.returns (fun t ht hW => ⟨⟨u, rfl, hk, by rw [ht]; exact hP, va_K.moved hW.alike hK, hD⟩, hS.F ht⟩) hS.2.2 hd B'.notSynchronized)
  rw [lg_entry_eq]
  exact hg s.heap [] _ hP hD va_S.rf (lv_entry av hlen)
theorem g_joinN {A0 : Nat → Prop} {D : va_G} {cl : List vw_C} {ws wc wa wb : va_W} {H H1 : Heap} (hP : va_P D cl ws H) (hD : va_D A0 ws) (isC : List Nat) (hC : isC.map (fun i => ws[i]?) = wc.map some) (hadr : wa.map Prod.fst = wc.map Prod.fst)
    (hk : ∀ q : Nat, q < H.size → ¬ va_A wc H.size q → H1[q]? = H[q]?) (hF : ∀ q, va_A wc H.size q → A0 q) (hP1 : va_P D cl (wa ++ wb) H1) (hD1 : va_D (va_A wc H.size) (wa ++ wb)) : va_P D cl (g_sM ws isC wa ++ wb) H1 ∧ va_D A0 (g_sM ws isC wa ++ wb) := by
  have hPa : va_P D cl wa H1 := fun k q hq => hP1 k q (by rw [List.getElem?_append_left (List.getElem?_eq_some_iff.mp hq).1]; exact hq)
  have hat : ∀ (k : Nat) (q : Nat × va_E), wb[k]? = some q → (wa ++ wb)[wa.length + k]? = some q := fun k q hq => by
    rw [List.getElem?_append_right (Nat.le_add_right _ _), Nat.add_sub_cancel_left]; exact hq
  obtain ⟨h1, h2⟩ := g_join hP hD isC hC hadr hk hPa
  have hl2 : wa.length = wc.length := by have := congrArg List.length hadr; simpa using this
  refine ⟨h1.app (fun k q hq => hP1 _ q (hat k q hq)), h2.app ⟨fun i j x y hi hj hxy => ?_, fun k q hq => hF _ (hD1.2 _ q (hat k q hq))⟩ ?_⟩
  · have := hD1.1 _ _ x y (hat i x hi) (hat j y hj) hxy
    omega
  · intro i j x y hi hj hxy
    obtain ⟨x0, k1, k2⟩ : ∃ x0, ws[i]? = some x0 ∧ x0.1 = x.1 := by
      have hl1 : isC.length = wc.length := by have := congrArg List.length hC; simpa using this
      rcases g_sM_get isC wa ws i x (by rw [hl1, hl2]) hi with ⟨z, z1, z2⟩ | ⟨z1, -⟩
      · have h3 : (isC.map (fun i => ws[i]?))[z]? = some (ws[i]?) := by rw [List.getElem?_map, z2]; rfl
        rw [hC, List.getElem?_map] at h3
        cases hw : wc[z]? with
        | none => rw [hw] at h3; cases h3
        | some q' =>
          rw [hw] at h3
          have h4 : (wa.map Prod.fst)[z]? = (wc.map Prod.fst)[z]? := by rw [hadr]
          rw [List.getElem?_map, List.getElem?_map, z1, hw] at h4
          exact ⟨q', (Option.some.inj h3).symm, (Option.some.inj h4).symm⟩
      · exact ⟨x, z1, rfl⟩
    rcases hD1.2 _ y (hat j y hj) with ⟨z, e, hz⟩ | hge
    · have hzl : z < wa.length := by rw [hl2]; exact (List.getElem?_eq_some_iff.mp hz).1
      have h4 : (wa.map Prod.fst)[z]? = (wc.map Prod.fst)[z]? := by rw [hadr]
      rw [List.getElem?_map, List.getElem?_map, hz, List.getElem?_eq_getElem hzl] at h4
      have h5 : (wa[z]).1 = y.1 := Option.some.inj h4
      have h6 := hD1.1 z (wa.length + j) wa[z] y (by rw [List.getElem?_append_left hzl]; exact List.getElem?_eq_getElem hzl) (hat j y hj) h5
      omega
    · have h7 := (hP i x0 k1).lt
      rw [k2, hxy] at h7
      omega
def g_MI (own : String) (idx : Nat) (y : MethodName) (cc : ByteArray) (nL : Nat) : Prop := ((own, idx, y, "HeatLines") ∈ g_nests ∨ Cond.methodLink own idx y ∈ lw_gw) ∧ Cond.instanceMethod y ∈ lw_gw ∧ Cond.initialized y.cls ∈ lw_gw ∧ Cond.code y cc nL none ∈ lw_gw ∧ y.name = "<init>" ∧ (y.cls ≠ "java/lang/invoke/MethodHandle" ∧ y.cls ≠ "java/lang/invoke/VarHandle" ∧ (parseMethodDescriptor y.desc).map (fun d => d.parameters.length) = some 0)
theorem g_cI {Γ : g_C} {R : Room} {cc : ByteArray} {own : String} {nL kc ks : Nat} {ls : List (Nat × Value)} {st : List Value} {ws : va_W} (pc : Nat) (X : g_X (g_at Γ kc ks) R cc own nL) {y : MethodName} {cc1 : ByteArray} {nL1 f lo : Nat} {wc : va_W} {S : Type} {K : S → Prop} {Ba Bb : S → va_W} {mc ms idx : Nat} (ma : g_MI own idx y cc1 nL1) (hdg : decode cc pc = .ok (.invokespecial idx, 3)) (b : Nat) (hM : g_CN Γ.2.1 (g_env Γ) y cc1 nL1 f lo [.ref b] wc K (fun u => Ba u ++ Bb u) mc ms) (isC : List Nat) (ws1 : S → va_W) (kc1 ks1 : Nat) (e1 : kc + mc = kc1) (e2 : ks + ms = ks1)
    (hb1 : kc1 ≤ R.cells) (hb2 : ks1 ≤ R.slots) (hR : f + 1 ≤ R.frames ∧ 8 + (nL1 + 11) + lo ≤ R.locals) (hst : (st.map fun v => v.category).sum ≤ 8) (hC : isC.map (fun i => ws[i]?) = wc.map some) (hnd : va_nd isC = true) (hadr : ∀ u, (Ba u).map Prod.fst = wc.map Prod.fst) (h1 : ∀ u, g_sM ws isC (Ba u) ++ Bb u = ws1 u)
    (kk : ∀ (u : S), K u → g_G (g_at Γ kc1 ks1) R nL (pc + 3) ls st (ws1 u)) : g_G (g_at Γ kc ks) R nL pc ls (.ref b :: st) ws := by
  obtain ⟨p, l, e, s, m, args, below, meth, c, E, A, k0, s0, Q⟩ := Γ
  obtain ⟨hx, hb, hml, hown, hts, hK, hE, hA, hkc, hks⟩ := X
  intro H locs la hP hD hS hl
  subst e1; subst e2
  obtain ⟨m1, m2, m4, m5, m6, m7⟩ := ma
  have pre : PreS s H (va_Pc [.ref b] (g_Pre E wc H.size)) (.ref b :: []) := ⟨g_Pre.blind, fun U hU hW => ⟨rfl, g_Pre.at hK hE hA hP hD hS isC hC hnd hU hW⟩⟩
  have hrun : va_Run p l e R s m args below meth c H locs kc ks mc ms (F0 m pc la (.ref b :: st)) st (va_Qv K (fun u t => g_Post E wc (Ba u ++ Bb u) H.size t) (va_A wc H.size) (Value.ref b :: []).toArray) (va_A wc H.size) := by
    rcases m1 with m1 | m1
    · exact va_runIN (As := []) (rest := st) ⟨hx, hb, hml, hown, hts⟩ (hM H.size) ⟨va_cnB 0 hts (gw_in (fun _ h => h) m5) rfl rfl rfl (hE.1 _ m1) (hts _ m4) m7 hR, m6, hts _ m2⟩ pre rfl rfl hl.1 rfl (lv_room hst) hdg ⟨hb1, hb2⟩
    · exact va_runI (As := []) (rest := st) ⟨hx, hb, hml, hown, hts⟩ (hM H.size) ⟨callB_of 0 hts (gw_in (fun _ h => h) m5) rfl rfl rfl (hts _ m4) (hts _ m1) m7 hR, m6, hts _ m2⟩ pre rfl rfl hl.1 rfl (lv_room hst) hdg ⟨hb1, hb2⟩
  refine va_callv hrun hS (fun q _ h => va_free hD hS hA isC hC q h) (va_free hD hS hA isC hC) (fun u t H1 locs1 ht hvm hw hB hz1 hk1 hS1 => ?_)
  obtain ⟨hP1, hK1, hD1⟩ := hB
  rw [ht] at hP1
  obtain ⟨hP2, hD2⟩ := g_joinN hP hD isC hC (hadr u) hk1 (va_free hD hS hA isC hC) hP1 hD1
  rw [h1 u] at hP2 hD2
  exact kk u hw H1 locs1 la hP2 hD2 hS1 hl
/-- the same cells in another order -/
theorem g_perm {Γ : g_C} {R : Room} {nL : Nat} {ls : List (Nat × Value)} {st : List Value} {ws : va_W} (pc : Nat) (ws1 : va_W) (is : List Nat) (hn : va_nd is = true) (h : is.map (fun i => ws[i]?) = ws1.map some) (kk : g_G Γ R nL pc ls st ws1) : g_G Γ R nL pc ls st ws := by
  obtain ⟨p, l, e, s, m, args, below, meth, c, E, A, k0, s0, Q⟩ := Γ
  intro H locs la hP hD hS hl
  refine kk H locs la (fun k q hq => ?_) (hD.sub is hn h) hS hl
  have h1 : (is.map (fun i => ws[i]?))[k]? = some (some q) := by rw [h, List.getElem?_map, hq]; rfl
  rw [List.getElem?_map] at h1
  cases hi : is[k]? with
  | none => rw [hi] at h1; cases h1
  | some i => rw [hi] at h1; exact hP i q (Option.some.inj h1)
theorem vp_refa_eq {cA : ClassId} {n : Nat} {f g : Nat → Option Nat} (h : ∀ j, j < n → f j = g j) : vp_cell cA (n, .inr (.inr (.inr (.inr f)))) = vp_cell cA (n, .inr (.inr (.inr (.inr g)))) := by
  show arrV cA n (fun j => va_rf (f j)) = arrV cA n (fun j => va_rf (g j))
  have e : (fun j : Fin n => va_rf (f j.val)) = (fun j : Fin n => va_rf (g j.val)) := by
    funext j
    rw [h j.val j.isLt]
  exact congrArg (fun F => ({ cls := cA, slots := Array.ofFn (n := n) F, vm := .none } : Cell)) e
/-- an array of references, told by its places below its length -/
theorem g_refa {Γ : g_C} {R : Room} {nL : Nat} {ls : List (Nat × Value)} {st : List Value} {ws : va_W} (pc : Nat) (q0 : Nat) {a n : Nat} {cA : ClassId} {f : Nat → Option Nat} (g : Nat → Option Nat) (ws1 : va_W) (he : ws[q0]? = some (a, .inl (cA, n, .inr (.inr (.inr (.inr f)))))) (hfg : ∀ j, j < n → f j = g j) (h1 : ws.set q0 (a, .inl (cA, n, .inr (.inr (.inr (.inr g))))) = ws1) (kk : g_G Γ R nL pc ls st ws1) : g_G Γ R nL pc ls st ws := by
  obtain ⟨p, l, e, s, m, args, below, meth, c, E, A, k0, s0, Q⟩ := Γ
  intro H locs la hP hD hS hl
  subst h1
  refine kk H locs la (hP.set hD he ?_ (fun _ _ => rfl)) (hD.set he) hS hl
  have h2 : va_at E.1 vwCl (a, .inl (cA, n, .inr (.inr (.inr (.inr f))))) H := hP q0 _ he
  show H[a]? = some (vp_cell cA (n, .inr (.inr (.inr (.inr g)))))
  rw [show vp_cell cA (n, .inr (.inr (.inr (.inr g)))) = vp_cell cA (n, .inr (.inr (.inr (.inr f)))) from vp_refa_eq (fun j hj => (hfg j hj).symm)]
  exact h2
