/-! ===== contracts over known cells ===== -/
abbrev g_Rm (f lo : Nat) : Room := { frames := f, cells := 0, slots := 0, locals := lo }
def g_Pre (E : g_E) (ws : va_W) (sz : Nat) (U : State) : Prop := U.heap.size = sz ∧ va_P E.1 vwCl ws U.heap ∧ va_K E.1 vwCl (g_tys E) U ∧ va_D (fun _ => True) ws ∧ g_Xt E (va_A ws sz) U
def g_Post (E : g_E) (ws ws1 : va_W) (sz : Nat) (t : State) : Prop := va_P E.1 vwCl ws1 t.heap ∧ va_K E.1 vwCl (g_tys E) t ∧ va_D (va_A ws sz) ws1
theorem g_Xt.same {E : g_E} {A : Nat → Prop} {u U : State} (hvm : u.vm = U.vm) (hh : u.heap = U.heap) (h : g_Xt E A u) : g_Xt E A U := by
  obtain ⟨h1, h2, h3, h9⟩ := h
  refine ⟨fun q hq => va_Nw.same rfl hvm (h1 q hq), ?_, ?_, h9.moved (by rw [hvm]; exact Vm.Alike.refl _)⟩
  · rw [← hh]; exact h2.moved (by rw [hvm]; exact Vm.Alike.refl _)
  · rw [← hh]; exact h3.moved (by rw [hvm]; exact Vm.Alike.refl _)
theorem g_Xt.call {E : g_E} {A A1 : Nat → Prop} {s U : State} {H : Heap} {locs : List Loc} (h : g_Xt E A s) (hW : s.WarmedH U.vm) (hU : U.heap = H) (hS : va_S A s.heap H locs) (hA : ∀ q, A1 q → A q) : g_Xt E A1 U := by
  obtain ⟨h1, h2, h3, h9⟩ := h
  refine ⟨fun q hq => va_Nw.warmM hW (h1 q hq), ?_, ?_, h9.moved hW.alike⟩
  · have h4 := (h2.kept (H1 := H) (fun a ha hn => hS.2.1 a ha hn)).moved hW.alike
    obtain ⟨cf, kf, fi, f, a, cell, r1, r2, r3, r4, r5, r6, r7, r8⟩ := h4
    rw [hU]
    exact ⟨cf, kf, fi, f, a, cell, r1, r2, r3, r4, r5, r6, r7, fun q => r8 (hA _ q)⟩
  · rw [hU]
    exact ((h3.kept (H1 := H) (fun a ha hn => hS.2.1 a ha hn)).moved hW.alike).narrow hA
theorem g_Pre.blind {E : g_E} {ws : va_W} {sz : Nat} {av : List Value} : FrameBlind (va_Pc av (g_Pre E ws sz)) := by
  intro a U g mk q
  obtain ⟨q0, q1, qP, qK, qD, qX⟩ := q
  exact ⟨q0, q1, qP, va_K.moved (u := U) (U := U.calling g mk a) (Vm.Alike.refl U.vm) qK, qD, qX.same rfl rfl⟩
theorem g_Pre.at {E : g_E} {A : Nat → Prop} {ws wc : va_W} {s U : State} {H : Heap} {locs : List Loc} (hK : va_K E.1 vwCl (g_tys E) s) (hE : g_Xt E A s) (hA : ∀ q, s.heap.size ≤ q → A q) (hP : va_P E.1 vwCl ws H) (hD : va_D A ws) (hS : va_S A s.heap H locs) (isC : List Nat) (hC : isC.map (fun i => ws[i]?) = wc.map some) (hnd : va_nd isC = true) (hU : U.heap = H) (hW : s.WarmedH U.vm) : g_Pre E wc H.size U := by
  have hp : ∀ (k : Nat) (q : Nat × va_E), wc[k]? = some q → ∃ i : Nat, ws[i]? = some q := by
    intro k q hq
    have h1 : (isC.map (fun i => ws[i]?))[k]? = some (some q) := by rw [hC, List.getElem?_map, hq]; rfl
    rw [List.getElem?_map] at h1
    cases hi : isC[k]? with
    | none => rw [hi] at h1; cases h1
    | some i => rw [hi] at h1; exact ⟨i, Option.some.inj h1⟩
  refine ⟨by rw [hU], ?_, va_K.moved hW.alike hK, (hD.sub isC hnd hC).weaken (fun _ _ _ _ => trivial), hE.call hW hU hS (va_free hD hS hA isC hC)⟩
  rw [hU]
  intro k q hq
  obtain ⟨i, hi⟩ := hp k q hq
  exact hP i q hi
/-- the cells of a callee put back at their places -/
def g_sM : va_W → List Nat → va_W → va_W
  | ws, i :: is, c :: cs => g_sM (ws.set i c) is cs
  | ws, _, _ => ws
theorem g_sM_get : ∀ (is : List Nat) (cs ws : va_W) (k : Nat) (q : Nat × va_E), is.length = cs.length → (g_sM ws is cs)[k]? = some q → (∃ j : Nat, cs[j]? = some q ∧ is[j]? = some k) ∨ (ws[k]? = some q ∧ k ∉ is)
  | [], cs, ws, k, q, _, h => Or.inr ⟨by simpa [g_sM] using h, by simp⟩
  | i :: is, [], ws, k, q, hl, h => by simp at hl
  | i :: is, c :: cs, ws, k, q, hl, h => by
    rcases g_sM_get is cs (ws.set i c) k q (by simpa using hl) h with ⟨j, h1, h2⟩ | ⟨h1, h2⟩
    · exact Or.inl ⟨j + 1, by simpa using h1, by simpa using h2⟩
    · by_cases hk : k = i
      · subst hk
        have hlt : k < ws.length := by
          have := (List.getElem?_eq_some_iff.mp h1).1
          simpa using this
        rw [List.getElem?_set_self hlt] at h1
        exact Or.inl ⟨0, by simpa using h1, by simp⟩
      · rw [List.getElem?_set_ne (Ne.symm hk)] at h1
        exact Or.inr ⟨h1, by simp [hk, h2]⟩
theorem g_join {A0 : Nat → Prop} {D : va_G} {cl : List vw_C} {ws wc w1 : va_W} {H H1 : Heap} (hP : va_P D cl ws H) (hD : va_D A0 ws) (isC : List Nat) (hC : isC.map (fun i => ws[i]?) = wc.map some) (hadr : w1.map Prod.fst = wc.map Prod.fst)
    (hk : ∀ q : Nat, q < H.size → ¬ va_A wc H.size q → H1[q]? = H[q]?) (hP1 : va_P D cl w1 H1) : va_P D cl (g_sM ws isC w1) H1 ∧ va_D A0 (g_sM ws isC w1) := by
  have hl1 : isC.length = wc.length := by have := congrArg List.length hC; simpa using this
  have hl2 : w1.length = wc.length := by have := congrArg List.length hadr; simpa using this
  have hl : isC.length = w1.length := by rw [hl1, hl2]
  have atC : ∀ (j k : Nat), isC[j]? = some k → ∃ q', wc[j]? = some q' ∧ ws[k]? = some q' := by
    intro j k hj
    have h1 : (isC.map (fun i => ws[i]?))[j]? = some (ws[k]?) := by rw [List.getElem?_map, hj]; rfl
    rw [hC, List.getElem?_map] at h1
    cases hw : wc[j]? with
    | none => rw [hw] at h1; cases h1
    | some q' => rw [hw] at h1; exact ⟨q', rfl, (Option.some.inj h1).symm⟩
  have adr : ∀ (j : Nat) (q q' : Nat × va_E), w1[j]? = some q → wc[j]? = some q' → q'.1 = q.1 := by
    intro j q q' h1 h2
    have h3 : (w1.map Prod.fst)[j]? = (wc.map Prod.fst)[j]? := by rw [hadr]
    rw [List.getElem?_map, List.getElem?_map, h1, h2] at h3
    exact (Option.some.inj h3).symm
  have key : ∀ (k : Nat) (q : Nat × va_E), (g_sM ws isC w1)[k]? = some q → ∃ q0, ws[k]? = some q0 ∧ q0.1 = q.1 := by
    intro k q hq
    rcases g_sM_get isC w1 ws k q hl hq with ⟨j, h1, h2⟩ | ⟨h1, -⟩
    · obtain ⟨q', h3, h4⟩ := atC j k h2
      exact ⟨q', h4, adr j q q' h1 h3⟩
    · exact ⟨q, h1, rfl⟩
  refine ⟨fun k q hq => ?_, ⟨fun i j x y hi hj hxy => ?_, fun k q hq => ?_⟩⟩
  · rcases g_sM_get isC w1 ws k q hl hq with ⟨j, h1, h2⟩ | ⟨h1, h2⟩
    · exact hP1 j q h1
    · refine (hP k q h1).kept (hk q.1 (hP k q h1).lt ?_)
      rintro (⟨j, e, hj⟩ | hge)
      · have hlt : j < isC.length := by rw [hl1]; exact (List.getElem?_eq_some_iff.mp hj).1
        obtain ⟨q', h3, h4⟩ := atC j isC[j] (List.getElem?_eq_getElem hlt)
        rw [hj] at h3
        cases h3
        have := hD.1 k isC[j] q (q.1, e) h1 h4 rfl
        exact h2 (this ▸ List.getElem_mem hlt)
      · exact absurd (hP k q h1).lt (Nat.not_lt.mpr hge)
  · obtain ⟨x0, h1, h2⟩ := key i x hi
    obtain ⟨y0, h3, h4⟩ := key j y hj
    exact hD.1 i j x0 y0 h1 h3 (h2.trans (hxy.trans h4.symm))
  · obtain ⟨q0, h1, h2⟩ := key k q hq
    rw [← h2]
    exact hD.2 k q0 h1

def g_CI (l : Launch) (E : g_E) (y : MethodName) (cc : ByteArray) (nL : Nat) (rt : FieldType) (rm : Room) (av : List Value) (ws : va_W) {S : Type} (K : Int32 → S → Prop) (B : S → va_W) : Prop :=
  ∀ sz : Nat, Met l y (.code y cc nL (some rt) :: lw_gw) rm (va_Pc av (g_Pre E ws sz)) (va_Qi K (fun u t => g_Post E ws (B u) sz t) (va_A ws sz)) 0 0 (va_A ws sz)

theorem g_entI {l : Launch} {E : g_E} {y : MethodName} {cc : ByteArray} {nL : Nat} {rt : FieldType} {rm : Room} {av : List Value} {ws : va_W} {S : Type} {K : Int32 → S → Prop} {B : S → va_W} (own : String) (hy : plainName y.cls = true) (hc : y.cls = own) (hlen : (lg_sl av).length ≤ nL)
    (h : ∀ Γ : g_C, g_X Γ rm cc own nL → g_env Γ = E → Γ.2.1 = l → (∀ (pc : Nat) (ls : List (Nat × Value)) (r : Int32) (u : S), decode cc pc = .ok (.ireturn, 1) → narrow rt (.int r) = .int r → K r u → g_G Γ rm nL pc ls [.int r] (B u)) → g_G Γ rm nL 0 (lv_args 0 av) [] ws) : g_CI l E y cc nL rt rm av ws K B := by
  intro sz
  refine Met.ofW (cc := cc) (maxL := nL) (ret := (some rt)) hy rfl ?_
  intro p e s m args below meth c s₁ B' hml hv
  obtain ⟨rfl, hsz, hP, hK, hD0, hE⟩ := hv
  subst hsz
  have hD := hD0.self (sz := s.heap.size)
  have hA : ∀ q : Nat, s.heap.size ≤ q → va_A ws s.heap.size q := fun q h => Or.inr h
  have hX : g_X (p, l, e, s, m, av.toArray, below, meth, c, E, va_A ws s.heap.size, 0, 0, MQ below (va_Qi K (fun u t => g_Post E ws (B u) s.heap.size t) (va_A ws s.heap.size)) av.toArray s 0 0 (va_A ws s.heap.size)) rm cc own nL :=
    ⟨B'.exec, B'.bytes, hml, hc ▸ findClass_of_methodNamed B'.named, fun w hw => atoms_spec (ws := .code y cc nL (some rt) :: lw_gw) B'.pre w (List.mem_cons_of_mem _ hw), hK, hE, hA, Nat.zero_le _, Nat.zero_le _⟩
  have hg := h _ hX rfl rfl (by
    intro pc ls r u hd hn hk H locs la hP hD hS hl
    exact W.zret (v := r) B'.exec B'.bytes B'.returns hn (fun t ht hW => ⟨⟨r, u, rfl, hk, by rw [ht]; exact hP, va_K.moved hW.alike hK, hD⟩, hS.F ht⟩) hS.2.2 hd B'.notSynchronized)
  rw [lg_entry_eq]
  exact hg s.heap [] _ hP hD va_S.rf (lv_entry av hlen)

def g_CL (l : Launch) (E : g_E) (y : MethodName) (cc : ByteArray) (nL : Nat) (rm : Room) (av : List Value) (ws : va_W) {S : Type} (K : Int64 → S → Prop) (B : S → va_W) : Prop :=
  ∀ sz : Nat, Met l y (.code y cc nL (some .long) :: lw_gw) rm (va_Pc av (g_Pre E ws sz)) (va_Ql K (fun u t => g_Post E ws (B u) sz t) (va_A ws sz)) 0 0 (va_A ws sz)

theorem g_entL {l : Launch} {E : g_E} {y : MethodName} {cc : ByteArray} {nL : Nat} {rm : Room} {av : List Value} {ws : va_W} {S : Type} {K : Int64 → S → Prop} {B : S → va_W} (own : String) (hy : plainName y.cls = true) (hc : y.cls = own) (hlen : (lg_sl av).length ≤ nL)
    (h : ∀ Γ : g_C, g_X Γ rm cc own nL → g_env Γ = E → Γ.2.1 = l → (∀ (pc : Nat) (ls : List (Nat × Value)) (r : Int64) (u : S), decode cc pc = .ok (.lreturn, 1) → K r u → g_G Γ rm nL pc ls [.long r] (B u)) → g_G Γ rm nL 0 (lv_args 0 av) [] ws) : g_CL l E y cc nL rm av ws K B := by
  intro sz
  refine Met.ofW (cc := cc) (maxL := nL) (ret := (some .long)) hy rfl ?_
  intro p e s m args below meth c s₁ B' hml hv
  obtain ⟨rfl, hsz, hP, hK, hD0, hE⟩ := hv
  subst hsz
  have hD := hD0.self (sz := s.heap.size)
  have hA : ∀ q : Nat, s.heap.size ≤ q → va_A ws s.heap.size q := fun q h => Or.inr h
  have hX : g_X (p, l, e, s, m, av.toArray, below, meth, c, E, va_A ws s.heap.size, 0, 0, MQ below (va_Ql K (fun u t => g_Post E ws (B u) s.heap.size t) (va_A ws s.heap.size)) av.toArray s 0 0 (va_A ws s.heap.size)) rm cc own nL :=
    ⟨B'.exec, B'.bytes, hml, hc ▸ findClass_of_methodNamed B'.named, fun w hw => atoms_spec (ws := .code y cc nL (some .long) :: lw_gw) B'.pre w (List.mem_cons_of_mem _ hw), hK, hE, hA, Nat.zero_le _, Nat.zero_le _⟩
  have hg := h _ hX rfl rfl (by
    intro pc ls r u hd hk H locs la hP hD hS hl
    exact W.lret (v := r) B'.exec B'.bytes B'.returns (fun t ht hW => ⟨⟨r, u, rfl, hk, by rw [ht]; exact hP, va_K.moved hW.alike hK, hD⟩, hS.F ht⟩) hS.2.2 hd B'.notSynchronized)
  rw [lg_entry_eq]
  exact hg s.heap [] _ hP hD va_S.rf (lv_entry av hlen)

def g_CV (l : Launch) (E : g_E) (y : MethodName) (cc : ByteArray) (nL : Nat) (rm : Room) (av : List Value) (ws : va_W) {S : Type} (K : S → Prop) (B : S → va_W) : Prop :=
  ∀ sz : Nat, Met l y (.code y cc nL none :: lw_gw) rm (va_Pc av (g_Pre E ws sz)) (va_Qv K (fun u t => g_Post E ws (B u) sz t) (va_A ws sz)) 0 0 (va_A ws sz)

theorem g_entV {l : Launch} {E : g_E} {y : MethodName} {cc : ByteArray} {nL : Nat} {rm : Room} {av : List Value} {ws : va_W} {S : Type} {K : S → Prop} {B : S → va_W} (own : String) (hy : plainName y.cls = true) (hc : y.cls = own) (hlen : (lg_sl av).length ≤ nL)
    (h : ∀ Γ : g_C, g_X Γ rm cc own nL → g_env Γ = E → Γ.2.1 = l → (∀ (pc : Nat) (ls : List (Nat × Value)) (u : S), decode cc pc = .ok (.return_, 1) → K u → g_G Γ rm nL pc ls [] (B u)) → g_G Γ rm nL 0 (lv_args 0 av) [] ws) : g_CV l E y cc nL rm av ws K B := by
  intro sz
  refine Met.ofW (cc := cc) (maxL := nL) (ret := none) hy rfl ?_
  intro p e s m args below meth c s₁ B' hml hv
  obtain ⟨rfl, hsz, hP, hK, hD0, hE⟩ := hv
  subst hsz
  have hD := hD0.self (sz := s.heap.size)
  have hA : ∀ q : Nat, s.heap.size ≤ q → va_A ws s.heap.size q := fun q h => Or.inr h
  have hX : g_X (p, l, e, s, m, av.toArray, below, meth, c, E, va_A ws s.heap.size, 0, 0, MQ below (va_Qv K (fun u t => g_Post E ws (B u) s.heap.size t) (va_A ws s.heap.size)) av.toArray s 0 0 (va_A ws s.heap.size)) rm cc own nL :=
    ⟨B'.exec, B'.bytes, hml, hc ▸ findClass_of_methodNamed B'.named, fun w hw => atoms_spec (ws := .code y cc nL none :: lw_gw) B'.pre w (List.mem_cons_of_mem _ hw), hK, hE, hA, Nat.zero_le _, Nat.zero_le _⟩
  have hg := h _ hX rfl rfl (by
    intro pc ls u hd hk H locs la hP hD hS hl
    exact W.vret B'.exec B'.bytes B'.returns (fun t ht hW => ⟨⟨u, rfl, hk, by rw [ht]; exact hP, va_K.moved hW.alike hK, hD⟩, hS.F ht⟩) hS.2.2 hd B'.notSynchronized)
  rw [lg_entry_eq]
  exact hg s.heap [] _ hP hD va_S.rf (lv_entry av hlen)

/-- what a call needs of the tables -/
def g_MV (own : String) (idx : Nat) (y : MethodName) (cc : ByteArray) (nL : Nat) (ret : Option FieldType) (n : Nat) : Prop := Cond.methodLink own idx y ∈ lw_gw ∧ Cond.instanceMethod y ∈ lw_gw ∧ Cond.selects y.cls y y ∈ lw_gw ∧ Cond.initialized y.cls ∈ lw_gw ∧ Cond.code y cc nL ret ∈ lw_gw ∧ (y.cls ≠ "java/lang/invoke/MethodHandle" ∧ y.cls ≠ "java/lang/invoke/VarHandle" ∧ (parseMethodDescriptor y.desc).map (fun d => d.parameters.length) = some n)
def g_MS (own : String) (idx : Nat) (y : MethodName) (cc : ByteArray) (nL : Nat) (ret : Option FieldType) (n : Nat) : Prop := Cond.methodLink own idx y ∈ lw_gw ∧ Cond.static y ∈ lw_gw ∧ Cond.initialized y.cls ∈ lw_gw ∧ Cond.code y cc nL ret ∈ lw_gw ∧ (y.cls ≠ "java/lang/invoke/MethodHandle" ∧ y.cls ≠ "java/lang/invoke/VarHandle" ∧ (parseMethodDescriptor y.desc).map (fun d => d.parameters.length) = some n)
def g_MN (own : String) (idx : Nat) (y : MethodName) (cc : ByteArray) (nL : Nat) (ret : Option FieldType) (n : Nat) : Prop := (own, idx, y, "HeatLines") ∈ g_nests ∧ Cond.static y ∈ lw_gw ∧ Cond.initialized y.cls ∈ lw_gw ∧ Cond.code y cc nL ret ∈ lw_gw ∧ (y.cls ≠ "java/lang/invoke/MethodHandle" ∧ y.cls ≠ "java/lang/invoke/VarHandle" ∧ (parseMethodDescriptor y.desc).map (fun d => d.parameters.length) = some n)
section Calls6
variable {Γ : g_C} {R : Room} {cc : ByteArray} {own : String} {nL : Nat} {ls : List (Nat × Value)} {st : List Value} {ws : va_W}

theorem g_cVI (pc : Nat) (X : g_X Γ R cc own nL) {y : MethodName} {cc1 : ByteArray} {nL1 : Nat} {rt : FieldType} {rm : Room} {wc : va_W} {S : Type} {K : Int32 → S → Prop} {B : S → va_W} {idx n : Nat} (ma : g_MV own idx y cc1 nL1 (some rt) n) (hdg : decode cc pc = .ok (.invokevirtual idx, 3)) (b ci : Nat) {fs : List Value} (As : List Value) (hM : g_CI Γ.2.1 (g_env Γ) y cc1 nL1 rt rm (.ref b :: As) wc K B) (isC : List Nat) (ws1 : S → va_W)
    (hn : As.length = n) (hR : rm.frames + 1 ≤ R.frames ∧ 8 + (nL1 + 11) + rm.locals ≤ R.locals) (hrc : rm.cells = 0 ∧ rm.slots = 0) (hst : (st.map fun v => v.category).sum ≤ 8) (hci : (vwCl[ci]?).map (fun q => q.1) = some y.cls) (hb0 : wc[0]? = some (b, .inr (ci, fs))) (hC : isC.map (fun i => ws[i]?) = wc.map some) (hnd : va_nd isC = true) (hadr : ∀ u, (B u).map Prod.fst = wc.map Prod.fst) (h1 : ∀ u, g_sM ws isC (B u) = ws1 u)
    (kk : ∀ (r : Int32) (u : S), K r u → g_G Γ R nL (pc + 3) ls (.int r :: st) (ws1 u)) : g_G Γ R nL pc ls (As.reverse ++ .ref b :: st) ws := by
  obtain ⟨p, l, e, s, m, args, below, meth, c, E, A, kc, ks, Q⟩ := Γ
  obtain ⟨hx, hb, hml, hown, hts, hK, hE, hA, hkc, hks⟩ := X
  intro H locs la hP hD hS hl
  obtain ⟨m1, m2, m3, m4, m5, m6⟩ := ma

  have hrecv : ∃ cell : Cell, H[b]? = some cell ∧ cell.vm.isStatics = false ∧ s.vm.findClass y.cls = some cell.cls := by
    have hp0 : va_P E.1 vwCl wc H := by
      intro k q hq
      have h1 : (isC.map (fun i => ws[i]?))[k]? = some (some q) := by rw [hC, List.getElem?_map, hq]; rfl
      rw [List.getElem?_map] at h1
      cases hi : isC[k]? with
      | none => rw [hi] at h1; cases h1
      | some i => rw [hi] at h1; exact hP i q (Option.some.inj h1)
    cases hq : vwCl[ci]? with
    | none => rw [hq] at hci; cases hci
    | some q =>
      rw [hq] at hci
      have := va_recv hK hp0 hq hb0
      rwa [show q.1 = y.cls from Option.some.inj hci] at this

  refine va_calli (va_runV (As := As) (rest := st) ⟨hx, hb, hml, hown, hts⟩ (hM H.size) ⟨callB_of n hts (gw_in (fun _ h => h) m5) rfl hrc.1 hrc.2 (hts _ m4) (hts _ m1) m6 hR, hts _ m2, hts _ m3⟩ ⟨g_Pre.blind, hrecv, fun U hU hW => ⟨rfl, g_Pre.at hK hE hA hP hD hS isC hC hnd hU hW⟩⟩ rfl hn hl.1 rfl (lv_room hst) hdg ⟨by omega, by omega⟩) hS (fun q _ h => va_free hD hS hA isC hC q h) (va_free hD hS hA isC hC) (fun r u t H1 locs1 ht hvm hw hB hz1 hk1 hS1 => ?_)
  obtain ⟨hP1, hK1, hD1⟩ := hB
  rw [ht] at hP1
  obtain ⟨hP2, hD2⟩ := g_join hP hD isC hC (hadr u) hk1 hP1
  rw [h1 u] at hP2 hD2
  exact kk r u hw H1 locs1 la hP2 hD2 hS1 hl

theorem g_cSI (pc : Nat) (X : g_X Γ R cc own nL) {y : MethodName} {cc1 : ByteArray} {nL1 : Nat} {rt : FieldType} {rm : Room} {wc : va_W} {S : Type} {K : Int32 → S → Prop} {B : S → va_W} {idx n : Nat} (ma : g_MS own idx y cc1 nL1 (some rt) n) (hdg : decode cc pc = .ok (.invokestatic idx, 3)) (As : List Value) (hM : g_CI Γ.2.1 (g_env Γ) y cc1 nL1 rt rm As wc K B) (isC : List Nat) (ws1 : S → va_W)
    (hn : As.length = n) (hR : rm.frames + 1 ≤ R.frames ∧ 8 + (nL1 + 11) + rm.locals ≤ R.locals) (hrc : rm.cells = 0 ∧ rm.slots = 0) (hst : (st.map fun v => v.category).sum ≤ 8) (hC : isC.map (fun i => ws[i]?) = wc.map some) (hnd : va_nd isC = true) (hadr : ∀ u, (B u).map Prod.fst = wc.map Prod.fst) (h1 : ∀ u, g_sM ws isC (B u) = ws1 u)
    (kk : ∀ (r : Int32) (u : S), K r u → g_G Γ R nL (pc + 3) ls (.int r :: st) (ws1 u)) : g_G Γ R nL pc ls (As.reverse ++ st) ws := by
  obtain ⟨p, l, e, s, m, args, below, meth, c, E, A, kc, ks, Q⟩ := Γ
  obtain ⟨hx, hb, hml, hown, hts, hK, hE, hA, hkc, hks⟩ := X
  intro H locs la hP hD hS hl
  obtain ⟨m1, m2, m4, m5, m6⟩ := ma

  refine va_calli (va_runS (As := As) (rest := st) ⟨hx, hb, hml, hown, hts⟩ (hM H.size) ⟨callB_of n hts (gw_in (fun _ h => h) m5) rfl hrc.1 hrc.2 (hts _ m4) (hts _ m1) m6 hR, hts _ m2⟩ ⟨g_Pre.blind, fun U hU hW => ⟨rfl, g_Pre.at hK hE hA hP hD hS isC hC hnd hU hW⟩⟩ rfl hn hl.1 rfl (lv_room hst) hdg ⟨by omega, by omega⟩) hS (fun q _ h => va_free hD hS hA isC hC q h) (va_free hD hS hA isC hC) (fun r u t H1 locs1 ht hvm hw hB hz1 hk1 hS1 => ?_)
  obtain ⟨hP1, hK1, hD1⟩ := hB
  rw [ht] at hP1
  obtain ⟨hP2, hD2⟩ := g_join hP hD isC hC (hadr u) hk1 hP1
  rw [h1 u] at hP2 hD2
  exact kk r u hw H1 locs1 la hP2 hD2 hS1 hl

theorem g_cNI (pc : Nat) (X : g_X Γ R cc own nL) {y : MethodName} {cc1 : ByteArray} {nL1 : Nat} {rt : FieldType} {rm : Room} {wc : va_W} {S : Type} {K : Int32 → S → Prop} {B : S → va_W} {idx n : Nat} (ma : g_MN own idx y cc1 nL1 (some rt) n) (hdg : decode cc pc = .ok (.invokestatic idx, 3)) (As : List Value) (hM : g_CI Γ.2.1 (g_env Γ) y cc1 nL1 rt rm As wc K B) (isC : List Nat) (ws1 : S → va_W)
    (hn : As.length = n) (hR : rm.frames + 1 ≤ R.frames ∧ 8 + (nL1 + 11) + rm.locals ≤ R.locals) (hrc : rm.cells = 0 ∧ rm.slots = 0) (hst : (st.map fun v => v.category).sum ≤ 8) (hC : isC.map (fun i => ws[i]?) = wc.map some) (hnd : va_nd isC = true) (hadr : ∀ u, (B u).map Prod.fst = wc.map Prod.fst) (h1 : ∀ u, g_sM ws isC (B u) = ws1 u)
    (kk : ∀ (r : Int32) (u : S), K r u → g_G Γ R nL (pc + 3) ls (.int r :: st) (ws1 u)) : g_G Γ R nL pc ls (As.reverse ++ st) ws := by
  obtain ⟨p, l, e, s, m, args, below, meth, c, E, A, kc, ks, Q⟩ := Γ
  obtain ⟨hx, hb, hml, hown, hts, hK, hE, hA, hkc, hks⟩ := X
  intro H locs la hP hD hS hl
  obtain ⟨m1, m2, m4, m5, m6⟩ := ma

  refine va_calli (va_runSN (As := As) (rest := st) ⟨hx, hb, hml, hown, hts⟩ (hM H.size) ⟨va_cnB n hts (gw_in (fun _ h => h) m5) rfl hrc.1 hrc.2 (hE.1 _ m1) (hts _ m4) m6 hR, hts _ m2, trivial⟩ ⟨g_Pre.blind, fun U hU hW => ⟨rfl, g_Pre.at hK hE hA hP hD hS isC hC hnd hU hW⟩⟩ rfl hn hl.1 rfl (lv_room hst) hdg ⟨by omega, by omega⟩) hS (fun q _ h => va_free hD hS hA isC hC q h) (va_free hD hS hA isC hC) (fun r u t H1 locs1 ht hvm hw hB hz1 hk1 hS1 => ?_)
  obtain ⟨hP1, hK1, hD1⟩ := hB
  rw [ht] at hP1
  obtain ⟨hP2, hD2⟩ := g_join hP hD isC hC (hadr u) hk1 hP1
  rw [h1 u] at hP2 hD2
  exact kk r u hw H1 locs1 la hP2 hD2 hS1 hl

theorem g_cVL (pc : Nat) (X : g_X Γ R cc own nL) {y : MethodName} {cc1 : ByteArray} {nL1 : Nat} {rm : Room} {wc : va_W} {S : Type} {K : Int64 → S → Prop} {B : S → va_W} {idx n : Nat} (ma : g_MV own idx y cc1 nL1 (some .long) n) (hdg : decode cc pc = .ok (.invokevirtual idx, 3)) (b ci : Nat) {fs : List Value} (As : List Value) (hM : g_CL Γ.2.1 (g_env Γ) y cc1 nL1 rm (.ref b :: As) wc K B) (isC : List Nat) (ws1 : S → va_W)
    (hn : As.length = n) (hR : rm.frames + 1 ≤ R.frames ∧ 8 + (nL1 + 11) + rm.locals ≤ R.locals) (hrc : rm.cells = 0 ∧ rm.slots = 0) (hst : (st.map fun v => v.category).sum ≤ 8) (hci : (vwCl[ci]?).map (fun q => q.1) = some y.cls) (hb0 : wc[0]? = some (b, .inr (ci, fs))) (hC : isC.map (fun i => ws[i]?) = wc.map some) (hnd : va_nd isC = true) (hadr : ∀ u, (B u).map Prod.fst = wc.map Prod.fst) (h1 : ∀ u, g_sM ws isC (B u) = ws1 u)
    (kk : ∀ (r : Int64) (u : S), K r u → g_G Γ R nL (pc + 3) ls (.long r :: st) (ws1 u)) : g_G Γ R nL pc ls (As.reverse ++ .ref b :: st) ws := by
  obtain ⟨p, l, e, s, m, args, below, meth, c, E, A, kc, ks, Q⟩ := Γ
  obtain ⟨hx, hb, hml, hown, hts, hK, hE, hA, hkc, hks⟩ := X
  intro H locs la hP hD hS hl
  obtain ⟨m1, m2, m3, m4, m5, m6⟩ := ma

  have hrecv : ∃ cell : Cell, H[b]? = some cell ∧ cell.vm.isStatics = false ∧ s.vm.findClass y.cls = some cell.cls := by
    have hp0 : va_P E.1 vwCl wc H := by
      intro k q hq
      have h1 : (isC.map (fun i => ws[i]?))[k]? = some (some q) := by rw [hC, List.getElem?_map, hq]; rfl
      rw [List.getElem?_map] at h1
      cases hi : isC[k]? with
      | none => rw [hi] at h1; cases h1
      | some i => rw [hi] at h1; exact hP i q (Option.some.inj h1)
    cases hq : vwCl[ci]? with
    | none => rw [hq] at hci; cases hci
    | some q =>
      rw [hq] at hci
      have := va_recv hK hp0 hq hb0
      rwa [show q.1 = y.cls from Option.some.inj hci] at this

  refine va_calll (va_runV (As := As) (rest := st) ⟨hx, hb, hml, hown, hts⟩ (hM H.size) ⟨callB_of n hts (gw_in (fun _ h => h) m5) rfl hrc.1 hrc.2 (hts _ m4) (hts _ m1) m6 hR, hts _ m2, hts _ m3⟩ ⟨g_Pre.blind, hrecv, fun U hU hW => ⟨rfl, g_Pre.at hK hE hA hP hD hS isC hC hnd hU hW⟩⟩ rfl hn hl.1 rfl (lv_room hst) hdg ⟨by omega, by omega⟩) hS (fun q _ h => va_free hD hS hA isC hC q h) (va_free hD hS hA isC hC) (fun r u t H1 locs1 ht hvm hw hB hz1 hk1 hS1 => ?_)
  obtain ⟨hP1, hK1, hD1⟩ := hB
  rw [ht] at hP1
  obtain ⟨hP2, hD2⟩ := g_join hP hD isC hC (hadr u) hk1 hP1
  rw [h1 u] at hP2 hD2
  exact kk r u hw H1 locs1 la hP2 hD2 hS1 hl

theorem g_cSL (pc : Nat) (X : g_X Γ R cc own nL) {y : MethodName} {cc1 : ByteArray} {nL1 : Nat} {rm : Room} {wc : va_W} {S : Type} {K : Int64 → S → Prop} {B : S → va_W} {idx n : Nat} (ma : g_MS own idx y cc1 nL1 (some .long) n) (hdg : decode cc pc = .ok (.invokestatic idx, 3)) (As : List Value) (hM : g_CL Γ.2.1 (g_env Γ) y cc1 nL1 rm As wc K B) (isC : List Nat) (ws1 : S → va_W)
    (hn : As.length = n) (hR : rm.frames + 1 ≤ R.frames ∧ 8 + (nL1 + 11) + rm.locals ≤ R.locals) (hrc : rm.cells = 0 ∧ rm.slots = 0) (hst : (st.map fun v => v.category).sum ≤ 8) (hC : isC.map (fun i => ws[i]?) = wc.map some) (hnd : va_nd isC = true) (hadr : ∀ u, (B u).map Prod.fst = wc.map Prod.fst) (h1 : ∀ u, g_sM ws isC (B u) = ws1 u)
    (kk : ∀ (r : Int64) (u : S), K r u → g_G Γ R nL (pc + 3) ls (.long r :: st) (ws1 u)) : g_G Γ R nL pc ls (As.reverse ++ st) ws := by
  obtain ⟨p, l, e, s, m, args, below, meth, c, E, A, kc, ks, Q⟩ := Γ
  obtain ⟨hx, hb, hml, hown, hts, hK, hE, hA, hkc, hks⟩ := X
  intro H locs la hP hD hS hl
  obtain ⟨m1, m2, m4, m5, m6⟩ := ma

  refine va_calll (va_runS (As := As) (rest := st) ⟨hx, hb, hml, hown, hts⟩ (hM H.size) ⟨callB_of n hts (gw_in (fun _ h => h) m5) rfl hrc.1 hrc.2 (hts _ m4) (hts _ m1) m6 hR, hts _ m2⟩ ⟨g_Pre.blind, fun U hU hW => ⟨rfl, g_Pre.at hK hE hA hP hD hS isC hC hnd hU hW⟩⟩ rfl hn hl.1 rfl (lv_room hst) hdg ⟨by omega, by omega⟩) hS (fun q _ h => va_free hD hS hA isC hC q h) (va_free hD hS hA isC hC) (fun r u t H1 locs1 ht hvm hw hB hz1 hk1 hS1 => ?_)
  obtain ⟨hP1, hK1, hD1⟩ := hB
  rw [ht] at hP1
  obtain ⟨hP2, hD2⟩ := g_join hP hD isC hC (hadr u) hk1 hP1
  rw [h1 u] at hP2 hD2
  exact kk r u hw H1 locs1 la hP2 hD2 hS1 hl

theorem g_cNL (pc : Nat) (X : g_X Γ R cc own nL) {y : MethodName} {cc1 : ByteArray} {nL1 : Nat} {rm : Room} {wc : va_W} {S : Type} {K : Int64 → S → Prop} {B : S → va_W} {idx n : Nat} (ma : g_MN own idx y cc1 nL1 (some .long) n) (hdg : decode cc pc = .ok (.invokestatic idx, 3)) (As : List Value) (hM : g_CL Γ.2.1 (g_env Γ) y cc1 nL1 rm As wc K B) (isC : List Nat) (ws1 : S → va_W)
    (hn : As.length = n) (hR : rm.frames + 1 ≤ R.frames ∧ 8 + (nL1 + 11) + rm.locals ≤ R.locals) (hrc : rm.cells = 0 ∧ rm.slots = 0) (hst : (st.map fun v => v.category).sum ≤ 8) (hC : isC.map (fun i => ws[i]?) = wc.map some) (hnd : va_nd isC = true) (hadr : ∀ u, (B u).map Prod.fst = wc.map Prod.fst) (h1 : ∀ u, g_sM ws isC (B u) = ws1 u)
    (kk : ∀ (r : Int64) (u : S), K r u → g_G Γ R nL (pc + 3) ls (.long r :: st) (ws1 u)) : g_G Γ R nL pc ls (As.reverse ++ st) ws := by
  obtain ⟨p, l, e, s, m, args, below, meth, c, E, A, kc, ks, Q⟩ := Γ
  obtain ⟨hx, hb, hml, hown, hts, hK, hE, hA, hkc, hks⟩ := X
  intro H locs la hP hD hS hl
  obtain ⟨m1, m2, m4, m5, m6⟩ := ma

  refine va_calll (va_runSN (As := As) (rest := st) ⟨hx, hb, hml, hown, hts⟩ (hM H.size) ⟨va_cnB n hts (gw_in (fun _ h => h) m5) rfl hrc.1 hrc.2 (hE.1 _ m1) (hts _ m4) m6 hR, hts _ m2, trivial⟩ ⟨g_Pre.blind, fun U hU hW => ⟨rfl, g_Pre.at hK hE hA hP hD hS isC hC hnd hU hW⟩⟩ rfl hn hl.1 rfl (lv_room hst) hdg ⟨by omega, by omega⟩) hS (fun q _ h => va_free hD hS hA isC hC q h) (va_free hD hS hA isC hC) (fun r u t H1 locs1 ht hvm hw hB hz1 hk1 hS1 => ?_)
  obtain ⟨hP1, hK1, hD1⟩ := hB
  rw [ht] at hP1
  obtain ⟨hP2, hD2⟩ := g_join hP hD isC hC (hadr u) hk1 hP1
  rw [h1 u] at hP2 hD2
  exact kk r u hw H1 locs1 la hP2 hD2 hS1 hl

theorem g_cVV (pc : Nat) (X : g_X Γ R cc own nL) {y : MethodName} {cc1 : ByteArray} {nL1 : Nat} {rm : Room} {wc : va_W} {S : Type} {K : S → Prop} {B : S → va_W} {idx n : Nat} (ma : g_MV own idx y cc1 nL1 none n) (hdg : decode cc pc = .ok (.invokevirtual idx, 3)) (b ci : Nat) {fs : List Value} (As : List Value) (hM : g_CV Γ.2.1 (g_env Γ) y cc1 nL1 rm (.ref b :: As) wc K B) (isC : List Nat) (ws1 : S → va_W)
    (hn : As.length = n) (hR : rm.frames + 1 ≤ R.frames ∧ 8 + (nL1 + 11) + rm.locals ≤ R.locals) (hrc : rm.cells = 0 ∧ rm.slots = 0) (hst : (st.map fun v => v.category).sum ≤ 8) (hci : (vwCl[ci]?).map (fun q => q.1) = some y.cls) (hb0 : wc[0]? = some (b, .inr (ci, fs))) (hC : isC.map (fun i => ws[i]?) = wc.map some) (hnd : va_nd isC = true) (hadr : ∀ u, (B u).map Prod.fst = wc.map Prod.fst) (h1 : ∀ u, g_sM ws isC (B u) = ws1 u)
    (kk : ∀ (u : S), K u → g_G Γ R nL (pc + 3) ls st (ws1 u)) : g_G Γ R nL pc ls (As.reverse ++ .ref b :: st) ws := by
  obtain ⟨p, l, e, s, m, args, below, meth, c, E, A, kc, ks, Q⟩ := Γ
  obtain ⟨hx, hb, hml, hown, hts, hK, hE, hA, hkc, hks⟩ := X
  intro H locs la hP hD hS hl
  obtain ⟨m1, m2, m3, m4, m5, m6⟩ := ma

  have hrecv : ∃ cell : Cell, H[b]? = some cell ∧ cell.vm.isStatics = false ∧ s.vm.findClass y.cls = some cell.cls := by
    have hp0 : va_P E.1 vwCl wc H := by
      intro k q hq
      have h1 : (isC.map (fun i => ws[i]?))[k]? = some (some q) := by rw [hC, List.getElem?_map, hq]; rfl
      rw [List.getElem?_map] at h1
      cases hi : isC[k]? with
      | none => rw [hi] at h1; cases h1
      | some i => rw [hi] at h1; exact hP i q (Option.some.inj h1)
    cases hq : vwCl[ci]? with
    | none => rw [hq] at hci; cases hci
    | some q =>
      rw [hq] at hci
      have := va_recv hK hp0 hq hb0
      rwa [show q.1 = y.cls from Option.some.inj hci] at this

  refine va_callv (va_runV (As := As) (rest := st) ⟨hx, hb, hml, hown, hts⟩ (hM H.size) ⟨callB_of n hts (gw_in (fun _ h => h) m5) rfl hrc.1 hrc.2 (hts _ m4) (hts _ m1) m6 hR, hts _ m2, hts _ m3⟩ ⟨g_Pre.blind, hrecv, fun U hU hW => ⟨rfl, g_Pre.at hK hE hA hP hD hS isC hC hnd hU hW⟩⟩ rfl hn hl.1 rfl (lv_room hst) hdg ⟨by omega, by omega⟩) hS (fun q _ h => va_free hD hS hA isC hC q h) (va_free hD hS hA isC hC) (fun u t H1 locs1 ht hvm hw hB hz1 hk1 hS1 => ?_)
  obtain ⟨hP1, hK1, hD1⟩ := hB
  rw [ht] at hP1
  obtain ⟨hP2, hD2⟩ := g_join hP hD isC hC (hadr u) hk1 hP1
  rw [h1 u] at hP2 hD2
  exact kk u hw H1 locs1 la hP2 hD2 hS1 hl

theorem g_cSV (pc : Nat) (X : g_X Γ R cc own nL) {y : MethodName} {cc1 : ByteArray} {nL1 : Nat} {rm : Room} {wc : va_W} {S : Type} {K : S → Prop} {B : S → va_W} {idx n : Nat} (ma : g_MS own idx y cc1 nL1 none n) (hdg : decode cc pc = .ok (.invokestatic idx, 3)) (As : List Value) (hM : g_CV Γ.2.1 (g_env Γ) y cc1 nL1 rm As wc K B) (isC : List Nat) (ws1 : S → va_W)
    (hn : As.length = n) (hR : rm.frames + 1 ≤ R.frames ∧ 8 + (nL1 + 11) + rm.locals ≤ R.locals) (hrc : rm.cells = 0 ∧ rm.slots = 0) (hst : (st.map fun v => v.category).sum ≤ 8) (hC : isC.map (fun i => ws[i]?) = wc.map some) (hnd : va_nd isC = true) (hadr : ∀ u, (B u).map Prod.fst = wc.map Prod.fst) (h1 : ∀ u, g_sM ws isC (B u) = ws1 u)
    (kk : ∀ (u : S), K u → g_G Γ R nL (pc + 3) ls st (ws1 u)) : g_G Γ R nL pc ls (As.reverse ++ st) ws := by
  obtain ⟨p, l, e, s, m, args, below, meth, c, E, A, kc, ks, Q⟩ := Γ
  obtain ⟨hx, hb, hml, hown, hts, hK, hE, hA, hkc, hks⟩ := X
  intro H locs la hP hD hS hl
  obtain ⟨m1, m2, m4, m5, m6⟩ := ma

  refine va_callv (va_runS (As := As) (rest := st) ⟨hx, hb, hml, hown, hts⟩ (hM H.size) ⟨callB_of n hts (gw_in (fun _ h => h) m5) rfl hrc.1 hrc.2 (hts _ m4) (hts _ m1) m6 hR, hts _ m2⟩ ⟨g_Pre.blind, fun U hU hW => ⟨rfl, g_Pre.at hK hE hA hP hD hS isC hC hnd hU hW⟩⟩ rfl hn hl.1 rfl (lv_room hst) hdg ⟨by omega, by omega⟩) hS (fun q _ h => va_free hD hS hA isC hC q h) (va_free hD hS hA isC hC) (fun u t H1 locs1 ht hvm hw hB hz1 hk1 hS1 => ?_)
  obtain ⟨hP1, hK1, hD1⟩ := hB
  rw [ht] at hP1
  obtain ⟨hP2, hD2⟩ := g_join hP hD isC hC (hadr u) hk1 hP1
  rw [h1 u] at hP2 hD2
  exact kk u hw H1 locs1 la hP2 hD2 hS1 hl

theorem g_cNV (pc : Nat) (X : g_X Γ R cc own nL) {y : MethodName} {cc1 : ByteArray} {nL1 : Nat} {rm : Room} {wc : va_W} {S : Type} {K : S → Prop} {B : S → va_W} {idx n : Nat} (ma : g_MN own idx y cc1 nL1 none n) (hdg : decode cc pc = .ok (.invokestatic idx, 3)) (As : List Value) (hM : g_CV Γ.2.1 (g_env Γ) y cc1 nL1 rm As wc K B) (isC : List Nat) (ws1 : S → va_W)
    (hn : As.length = n) (hR : rm.frames + 1 ≤ R.frames ∧ 8 + (nL1 + 11) + rm.locals ≤ R.locals) (hrc : rm.cells = 0 ∧ rm.slots = 0) (hst : (st.map fun v => v.category).sum ≤ 8) (hC : isC.map (fun i => ws[i]?) = wc.map some) (hnd : va_nd isC = true) (hadr : ∀ u, (B u).map Prod.fst = wc.map Prod.fst) (h1 : ∀ u, g_sM ws isC (B u) = ws1 u)
    (kk : ∀ (u : S), K u → g_G Γ R nL (pc + 3) ls st (ws1 u)) : g_G Γ R nL pc ls (As.reverse ++ st) ws := by
  obtain ⟨p, l, e, s, m, args, below, meth, c, E, A, kc, ks, Q⟩ := Γ
  obtain ⟨hx, hb, hml, hown, hts, hK, hE, hA, hkc, hks⟩ := X
  intro H locs la hP hD hS hl
  obtain ⟨m1, m2, m4, m5, m6⟩ := ma

  refine va_callv (va_runSN (As := As) (rest := st) ⟨hx, hb, hml, hown, hts⟩ (hM H.size) ⟨va_cnB n hts (gw_in (fun _ h => h) m5) rfl hrc.1 hrc.2 (hE.1 _ m1) (hts _ m4) m6 hR, hts _ m2, trivial⟩ ⟨g_Pre.blind, fun U hU hW => ⟨rfl, g_Pre.at hK hE hA hP hD hS isC hC hnd hU hW⟩⟩ rfl hn hl.1 rfl (lv_room hst) hdg ⟨by omega, by omega⟩) hS (fun q _ h => va_free hD hS hA isC hC q h) (va_free hD hS hA isC hC) (fun u t H1 locs1 ht hvm hw hB hz1 hk1 hS1 => ?_)
  obtain ⟨hP1, hK1, hD1⟩ := hB
  rw [ht] at hP1
  obtain ⟨hP2, hD2⟩ := g_join hP hD isC hC (hadr u) hk1 hP1
  rw [h1 u] at hP2 hD2
  exact kk u hw H1 locs1 la hP2 hD2 hS1 hl

theorem gw_acopy_n : Cond.native arraycopyName ∈ lw_gw := gw_mem 411 (by decide +kernel) (by decide +kernel)
theorem gw_acopy_s : Cond.static arraycopyName ∈ lw_gw := gw_mem 410 (by decide +kernel) (by decide +kernel)
theorem gw_sys : Cond.initialized "java/lang/System" ∈ lw_gw := gw_mem 51 (by decide +kernel) (by decide +kernel)
theorem g_copyi (pc : Nat) (X : g_X Γ R cc own nL) {idx a0 a n0 n1 : Nat} {f g : Nat → Int32} {sp dp n : Int32} {cA : ClassId} (sp1 dp1 k1 : Nat) (ws1 : va_W) (hdg : decode cc pc = .ok (.invokestatic idx, 3)) (w1 : Cond.methodLink own idx arraycopyName ∈ lw_gw) (q0 q1 : Nat) (ha0 : ws[q0]? = some (a0, .inl (cA, n0, .inl f))) (ha1 : ws[q1]? = some (a, .inl (cA, n1, .inl g))) (hc : g_clI Γ = cA) (h1 : ¬ sp < 0) (h2 : ¬ dp < 0) (h3 : ¬ n < 0) (e1 : sp.toNatClampNeg = sp1) (e2 : dp.toNatClampNeg = dp1) (e3 : n.toNatClampNeg = k1) (h4 : sp1 + k1 ≤ n0) (h5 : dp1 + k1 ≤ n1) (hf : 1 ≤ R.frames) (ho : (st.map fun v => v.category).sum + (nativeFrameWords "java/lang/System" "arraycopy" 5 + 11) ≤ R.locals) (hset : ws.set q1 (a, .inl (cA, n1, .inl (va_cpy f g sp1 dp1 k1))) = ws1) (kk : g_G Γ R nL (pc + 3) ls st ws1) : g_G Γ R nL pc ls (.int n :: .int dp :: .ref a :: .int sp :: .ref a0 :: st) ws := by
  obtain ⟨p, l, e, s, m, args, below, meth, c, E, A, kc, ks, Q⟩ := Γ
  obtain ⟨hx, hb, hml, hown, hts, hK, hE, hA, hkc, hks⟩ := X
  intro H locs la hP hD hS hl
  subst e1; subst e2; subst e3; subst hset
  exact va_copyi hx hb (hml.trans hl.1.symm) hown (hts _ w1) (hts _ gw_acopy_n) (hts _ gw_acopy_s) (hts _ gw_sys) hK hP hD hS q0 q1 0 0 ha0 ha1 (by rw [← hc]; rfl) (by rw [← hc]; rfl) rfl h1 h2 h3 h4 h5 (fun _ _ => rfl) hf ho hdg (fun H1 locs1 hP1 hD1 hS1 => kk H1 locs1 la hP1 hD1 hS1 hl)
/-- the law's own script -/
def g_scr (Γ : g_C) (b L : Nat) (xs : Nat → Int32) : Prop := match Γ with
  | (_, _, _, s, _, _, _, _, _, _, A, _, _, _) => va_X b L xs s s.heap ∧ b < s.heap.size ∧ ¬ A b
theorem g_slen (pc : Nat) (X : g_X Γ R cc own nL) {b L : Nat} {xs : Nat → Int32} (hX : g_scr Γ b L xs) (hdg : decode cc pc = .ok (.arraylength, 1)) (kk : g_G Γ R nL (pc + 1) ls (.int (nI L) :: st) ws) : g_G Γ R nL pc ls (.ref b :: st) ws := by
  obtain ⟨p, l, e, s, m, args, below, meth, c, E, A, kc, ks, Q⟩ := Γ
  obtain ⟨hx, hb, hml, hown, hts, hK, hE, hA, hkc, hks⟩ := X
  intro H locs la hP hD hS hl
  exact va_slen hx hb hX.1 hX.2.1 hX.2.2 hS hdg (kk H locs la hP hD hS hl)
theorem g_sld (pc : Nat) (X : g_X Γ R cc own nL) {b L : Nat} {xs : Nat → Int32} (hX : g_scr Γ b L xs) {i : Int32} (hdg : decode cc pc = .ok (.iaload, 1)) (hi : vp_in i L) (kk : g_G Γ R nL (pc + 1) ls (.int (xs i.toNatClampNeg) :: st) ws) : g_G Γ R nL pc ls (.int i :: .ref b :: st) ws := by
  obtain ⟨p, l, e, s, m, args, below, meth, c, E, A, kc, ks, Q⟩ := Γ
  obtain ⟨hx, hb, hml, hown, hts, hK, hE, hA, hkc, hks⟩ := X
  intro H locs la hP hD hS hl
  exact va_sld hx hb hX.1 hX.2.1 hX.2.2 hS hi hdg (kk H locs la hP hD hS hl)
/-- fewer locals, in another order -/
theorem g_sub {pc : Nat} (ls1 : List (Nat × Value)) (ks : List Nat) (h : lv_pick ls ks = ls1) (kk : g_G Γ R nL pc ls1 st ws) : g_G Γ R nL pc ls st ws := by
  obtain ⟨p, l, e, s, m, args, below, meth, c, E, A, kc, ks, Q⟩ := Γ
  intro H locs la hP hD hS hl
  exact kk H locs la hP hD hS (lv_sub hl _ h)

end Calls6

/-- States in a row -/
def g_i9 (a3 a4 a5 a6 a7 a8 a9 a10 a11 : Int32) : Nat → Int32 := fun j => match j with
  | 3 => a3 | 4 => a4 | 5 => a5 | 6 => a6 | 7 => a7 | 8 => a8 | 9 => a9 | 10 => a10 | 11 => a11 | _ => 0
def g_st (E : g_E) (q : Nat → Nat → Nat) (H F Q I : Nat → Nat → Int32) (k : Nat) : va_W := [(q k 0, .inr (5, [.ref (q k 1), .ref (q k 2), .ref (q k 3), .int (I k 3), .int (I k 4), .int (I k 5), .int (I k 6), .int (I k 7), .int (I k 8), .int (I k 9), .int (I k 10), .int (I k 11)])), (q k 1, .inl (E.2.1, 8, .inl (H k))), (q k 2, .inl (E.2.1, 5, .inl (F k))), (q k 3, .inl (E.2.1, 8, .inl (Q k)))]
def g_poolF (E : g_E) (q : Nat → Nat → Nat) (H F Q I : Nat → Nat → Int32) : Nat → Nat → va_W
  | 0, _ => []
  | n + 1, k => g_st E q H F Q I k ++ g_poolF E q H F Q I n (k + 1)
def g_pool (E : g_E) (q : Nat → Nat → Nat) (H F Q I : Nat → Nat → Int32) (n : Nat) : va_W := g_poolF E q H F Q I n 0
theorem g_poolF_adr {E E' : g_E} {q : Nat → Nat → Nat} {H F Q I H' F' Q' I' : Nat → Nat → Int32} : ∀ (n k : Nat), (g_poolF E q H F Q I n k).map Prod.fst = (g_poolF E' q H' F' Q' I' n k).map Prod.fst
  | 0, _ => rfl
  | n + 1, k => by
    show (g_st E q H F Q I k ++ g_poolF E q H F Q I n (k + 1)).map Prod.fst = (g_st E' q H' F' Q' I' k ++ g_poolF E' q H' F' Q' I' n (k + 1)).map Prod.fst
    rw [List.map_append, List.map_append, g_poolF_adr n (k + 1)]
    rfl
theorem g_pool_adr {E : g_E} {q : Nat → Nat → Nat} {H F Q I H' F' Q' I' : Nat → Nat → Int32} {n : Nat} : (g_pool E q H F Q I n).map Prod.fst = (g_pool E q H' F' Q' I' n).map Prod.fst := g_poolF_adr n 0
theorem va_nd_iff : ∀ l : List Nat, va_nd l = true ↔ l.Nodup
  | [] => by simp [va_nd]
  | a :: l => by simp [va_nd, va_nd_iff l]
theorem g_range_map (wx pl : va_W) : (List.range' wx.length pl.length).map (fun i => (wx ++ pl)[i]?) = pl.map some := by
  apply List.ext_getElem?
  intro k
  rw [List.getElem?_map, List.getElem?_map]
  by_cases hk : k < pl.length
  · rw [List.getElem?_range' hk]
    show some ((wx ++ pl)[wx.length + 1 * k]?) = _
    rw [Nat.one_mul, List.getElem?_append_right (Nat.le_add_right _ _), Nat.add_sub_cancel_left, List.getElem?_eq_getElem hk]
    rfl
  · rw [List.getElem?_eq_none (by simpa using hk), List.getElem?_eq_none (by simpa using hk)]
    rfl
theorem g_sM_lo : ∀ (is : List Nat) (cs wx pl : va_W), (∀ i ∈ is, i < wx.length) → is.length = cs.length → g_sM (wx ++ pl) is cs = g_sM wx is cs ++ pl
  | [], cs, wx, pl, _, _ => by simp [g_sM]
  | i :: is, [], wx, pl, _, h => by simp at h
  | i :: is, c :: cs, wx, pl, hi, h => by
    show g_sM ((wx ++ pl).set i c) is cs = g_sM (wx.set i c) is cs ++ pl
    rw [List.set_append_left _ _ (hi i List.mem_cons_self)]
    exact g_sM_lo is cs (wx.set i c) pl (fun j hj => by rw [List.length_set]; exact hi j (List.mem_cons_of_mem _ hj)) (by simpa using h)
theorem g_sM_app : ∀ (i1 i2 : List Nat) (c1 c2 ws : va_W), i1.length = c1.length → g_sM ws (i1 ++ i2) (c1 ++ c2) = g_sM (g_sM ws i1 c1) i2 c2
  | [], i2, [], c2, ws, _ => by simp [g_sM]
  | [], i2, c :: c1, c2, ws, h => by simp at h
  | i :: i1, i2, [], c2, ws, h => by simp at h
  | i :: i1, i2, c :: c1, c2, ws, h => g_sM_app i1 i2 c1 c2 (ws.set i c) (by simpa using h)
theorem g_sM_len : ∀ (is : List Nat) (cs ws : va_W), (g_sM ws is cs).length = ws.length
  | [], cs, ws => by simp [g_sM]
  | i :: is, [], ws => by simp [g_sM]
  | i :: is, c :: cs, ws => by
    show (g_sM (ws.set i c) is cs).length = ws.length
    rw [g_sM_len is cs (ws.set i c), List.length_set]
theorem g_sM_hi : ∀ (pl1 pl wx : va_W), pl1.length = pl.length → g_sM (wx ++ pl) (List.range' wx.length pl.length) pl1 = wx ++ pl1
  | [], pl, wx, h => by
    have : pl = [] := List.length_eq_zero_iff.mp h.symm
    subst this
    simp [g_sM]
  | c :: pl1, [], wx, h => by simp at h
  | c :: pl1, d :: pl, wx, h => by
    have h1 : (wx ++ d :: pl).set wx.length c = (wx ++ [c]) ++ pl := by
      rw [List.set_append_right _ _ (Nat.le_refl _), Nat.sub_self]
      simp
    show g_sM ((wx ++ d :: pl).set wx.length c) (List.range' (wx.length + 1) pl.length) pl1 = wx ++ c :: pl1
    rw [h1]
    have h2 := g_sM_hi pl1 pl (wx ++ [c]) (by simpa using h)
    rw [show (wx ++ [c]).length = wx.length + 1 by simp] at h2
    rw [h2]
    simp
theorem g_aelt {Γ : g_C} {R : Room} {cc : ByteArray} {own : String} {nL : Nat} {ls : List (Nat × Value)} {st : List Value} {ws : va_W} (pc : Nat) (X : g_X Γ R cc own nL) {a n : Nat} {q : Nat → Nat → Nat} {i : Int32} {cA : ClassId} {k : Nat} (hdg : decode cc pc = .ok (.aaload, 1)) (q0 : Nat) (he : ws[q0]? = some (a, .inl (cA, n, .inr (.inr (.inr (.inr (fun k => some (q k 0)))))))) (hc : g_clS Γ = cA) (hk : k < n) (hi : i = nI k) (hn : n < 2 ^ 31) (kk : g_G Γ R nL (pc + 1) ls (.ref (q k 0) :: st) ws) : g_G Γ R nL pc ls (.int i :: .ref a :: st) ws := by
  subst hi
  refine g_aald pc X hdg q0 he hc (vp_in_nI hk hn) ?_
  rw [nI_clamp (Nat.lt_trans hk hn)]
  exact kk
theorem vp_lit {i : Int32} {n : Nat} (h : (decide (i < 0) || decide (n ≤ i.toNatClampNeg)) = false) : vp_in i n := by
  simp only [Bool.or_eq_false_iff, decide_eq_false_iff_not] at h
  exact fun q => q.elim h.1 h.2
theorem sw_split (x : Int32) (lo : Int) (n : Nat) : (x.toInt < lo ∨ lo + n ≤ x.toInt) ∨ ∃ k : Nat, k < n ∧ x = Int32.ofInt (lo + k) := by
  by_cases h1 : x.toInt < lo
  · exact Or.inl (Or.inl h1)
  · by_cases h2 : lo + n ≤ x.toInt
    · exact Or.inl (Or.inr h2)
    · refine Or.inr ⟨(x.toInt - lo).toNat, by omega, ?_⟩
      have : lo + ((x.toInt - lo).toNat : Int) = x.toInt := by omega
      rw [this]
      simp

theorem g_cVIp {Γ : g_C} {R : Room} {cc : ByteArray} {own : String} {nL : Nat} {ls : List (Nat × Value)} {st : List Value} (pc : Nat) (X : g_X Γ R cc own nL) {y : MethodName} {cc1 : ByteArray} {nL1 : Nat} {rt : FieldType} {rm : Room} (wx pl : va_W) {wcx : va_W} {S : Type} {K : Int32 → S → Prop} {Bx Bp : S → va_W} {idx n : Nat} (ma : g_MV own idx y cc1 nL1 (some rt) n) (hdg : decode cc pc = .ok (.invokevirtual idx, 3)) (b ci : Nat) {fs : List Value} (As : List Value) (hM : g_CI Γ.2.1 (g_env Γ) y cc1 nL1 rt rm (.ref b :: As) (wcx ++ pl) K (fun u => Bx u ++ Bp u)) (isx : List Nat) (wx1 ws1 : S → va_W)
    (hn : As.length = n) (hR : rm.frames + 1 ≤ R.frames ∧ 8 + (nL1 + 11) + rm.locals ≤ R.locals) (hrc : rm.cells = 0 ∧ rm.slots = 0) (hst : (st.map fun v => v.category).sum ≤ 8) (hci : (vwCl[ci]?).map (fun q => q.1) = some y.cls) (hb0 : wcx[0]? = some (b, .inr (ci, fs))) (hC : isx.map (fun i => wx[i]?) = wcx.map some) (hnd : va_nd isx = true) (hadr : ∀ u, (Bx u).map Prod.fst = wcx.map Prod.fst) (hadp : ∀ u, (Bp u).map Prod.fst = pl.map Prod.fst) (h1 : ∀ u, g_sM wx isx (Bx u) = wx1 u) (h2 : ∀ u, wx1 u ++ Bp u = ws1 u)
    (kk : ∀ (r : Int32) (u : S), K r u → g_G Γ R nL (pc + 3) ls (.int r :: st) (ws1 u)) : g_G Γ R nL pc ls (As.reverse ++ .ref b :: st) (wx ++ pl) := by
  have hl1 : isx.length = wcx.length := by have := congrArg List.length hC; simpa using this
  have hlt : ∀ i ∈ isx, i < wx.length := by
    intro i hi
    obtain ⟨k, hk, rfl⟩ := List.getElem_of_mem hi
    have h3 : (isx.map (fun i => wx[i]?))[k]? = some (wx[isx[k]]?) := by rw [List.getElem?_map, List.getElem?_eq_getElem hk]; rfl
    rw [hC, List.getElem?_map, List.getElem?_eq_getElem (by omega)] at h3
    exact (List.getElem?_eq_some_iff.mp (Option.some.inj h3).symm).1
  refine g_cVI pc X ma hdg b ci As hM (isx ++ List.range' wx.length pl.length) ws1 hn hR hrc hst hci (fs := fs) ?_ ?_ ?_ ?_ ?_ kk
  · rw [List.getElem?_append_left (List.getElem?_eq_some_iff.mp hb0).1]; exact hb0
  · rw [List.map_append, List.map_append, g_range_map, ← hC]
    congr 1
    apply List.map_congr_left
    intro i hi
    exact List.getElem?_append_left (hlt i hi)
  · rw [va_nd_iff, List.nodup_append]
    refine ⟨(va_nd_iff _).mp hnd, List.nodup_range', ?_⟩
    intro a ha b hb
    have := hlt a ha
    have := (List.mem_range'_1.mp hb).1
    omega
  · intro u
    rw [List.map_append, List.map_append, hadr, hadp]
  · intro u
    have hx1 : isx.length = (Bx u).length := by
      have := congrArg List.length (hadr u)
      rw [List.length_map, List.length_map] at this
      omega
    have hx2 : (Bp u).length = pl.length := by have := congrArg List.length (hadp u); simpa using this
    rw [g_sM_app _ _ _ _ _ hx1, g_sM_lo _ _ _ _ hlt hx1, h1 u]
    have hwl : (wx1 u).length = wx.length := by rw [← h1 u]; exact g_sM_len _ _ _
    rw [← hwl, g_sM_hi _ _ _ hx2]
    exact h2 u
theorem g_cVVp {Γ : g_C} {R : Room} {cc : ByteArray} {own : String} {nL : Nat} {ls : List (Nat × Value)} {st : List Value} (pc : Nat) (X : g_X Γ R cc own nL) {y : MethodName} {cc1 : ByteArray} {nL1 : Nat} {rm : Room} (wx pl : va_W) {wcx : va_W} {S : Type} {K : S → Prop} {Bx Bp : S → va_W} {idx n : Nat} (ma : g_MV own idx y cc1 nL1 none n) (hdg : decode cc pc = .ok (.invokevirtual idx, 3)) (b ci : Nat) {fs : List Value} (As : List Value) (hM : g_CV Γ.2.1 (g_env Γ) y cc1 nL1 rm (.ref b :: As) (wcx ++ pl) K (fun u => Bx u ++ Bp u)) (isx : List Nat) (wx1 ws1 : S → va_W)
    (hn : As.length = n) (hR : rm.frames + 1 ≤ R.frames ∧ 8 + (nL1 + 11) + rm.locals ≤ R.locals) (hrc : rm.cells = 0 ∧ rm.slots = 0) (hst : (st.map fun v => v.category).sum ≤ 8) (hci : (vwCl[ci]?).map (fun q => q.1) = some y.cls) (hb0 : wcx[0]? = some (b, .inr (ci, fs))) (hC : isx.map (fun i => wx[i]?) = wcx.map some) (hnd : va_nd isx = true) (hadr : ∀ u, (Bx u).map Prod.fst = wcx.map Prod.fst) (hadp : ∀ u, (Bp u).map Prod.fst = pl.map Prod.fst) (h1 : ∀ u, g_sM wx isx (Bx u) = wx1 u) (h2 : ∀ u, wx1 u ++ Bp u = ws1 u)
    (kk : ∀ (u : S), K u → g_G Γ R nL (pc + 3) ls st (ws1 u)) : g_G Γ R nL pc ls (As.reverse ++ .ref b :: st) (wx ++ pl) := by
  have hl1 : isx.length = wcx.length := by have := congrArg List.length hC; simpa using this
  have hlt : ∀ i ∈ isx, i < wx.length := by
    intro i hi
    obtain ⟨k, hk, rfl⟩ := List.getElem_of_mem hi
    have h3 : (isx.map (fun i => wx[i]?))[k]? = some (wx[isx[k]]?) := by rw [List.getElem?_map, List.getElem?_eq_getElem hk]; rfl
    rw [hC, List.getElem?_map, List.getElem?_eq_getElem (by omega)] at h3
    exact (List.getElem?_eq_some_iff.mp (Option.some.inj h3).symm).1
  refine g_cVV pc X ma hdg b ci As hM (isx ++ List.range' wx.length pl.length) ws1 hn hR hrc hst hci (fs := fs) ?_ ?_ ?_ ?_ ?_ kk
  · rw [List.getElem?_append_left (List.getElem?_eq_some_iff.mp hb0).1]; exact hb0
  · rw [List.map_append, List.map_append, g_range_map, ← hC]
    congr 1
    apply List.map_congr_left
    intro i hi
    exact List.getElem?_append_left (hlt i hi)
  · rw [va_nd_iff, List.nodup_append]
    refine ⟨(va_nd_iff _).mp hnd, List.nodup_range', ?_⟩
    intro a ha b hb
    have := hlt a ha
    have := (List.mem_range'_1.mp hb).1
    omega
  · intro u
    rw [List.map_append, List.map_append, hadr, hadp]
  · intro u
    have hx1 : isx.length = (Bx u).length := by
      have := congrArg List.length (hadr u)
      rw [List.length_map, List.length_map] at this
      omega
    have hx2 : (Bp u).length = pl.length := by have := congrArg List.length (hadp u); simpa using this
    rw [g_sM_app _ _ _ _ _ hx1, g_sM_lo _ _ _ _ hlt hx1, h1 u]
    have hwl : (wx1 u).length = wx.length := by rw [← h1 u]; exact g_sM_len _ _ _
    rw [← hwl, g_sM_hi _ _ _ hx2]
    exact h2 u
