/-! ===== the words that every method of the system carries: the tables' good ones ===== -/
def lw_gw : List Cond := lw_tbl.filter goodWord
theorem gw_mem {w : Cond} (i : Nat) (h : lw_tbl[i]? = some w) (hg : goodWord w = true) : w ∈ lw_gw := List.mem_filter.mpr ⟨List.mem_of_getElem? h, hg⟩
theorem gw_good {w : Cond} (h : w ∈ lw_gw) : goodWord w = true := (List.mem_filter.mp h).2
theorem gw_tbl {w : Cond} (h : w ∈ lw_gw) : w ∈ lw_tbl := (List.mem_filter.mp h).1
theorem gw_in {big : List Cond} {c : Cond} (hb : ∀ w ∈ lw_gw, w ∈ big) (hc : c ∈ lw_gw) : GoodIn big (c :: lw_gw) := by
  intro w h
  rcases List.mem_cons.mp h with rfl | h
  · exact ⟨hb _ hc, good_of_word (gw_good hc)⟩
  · exact ⟨hb _ h, good_of_word (gw_good h)⟩
/-- the surroundings: where classes and fields lie, the classes of int, boolean and State arrays, the cell of FACTORIALS -/
abbrev g_E : Type := va_G × ClassId × ClassId × ClassId × Nat
abbrev g_tys (E : g_E) : List (ClassId × FieldType) := [(E.2.1, .int), (E.2.2.1, .boolean), (E.2.2.2.1, .object "HeatLines$State")]
def g_fc : Nat → Int32 := fun k => match k with
  | 0 => 1 | 1 => 1 | 2 => 2 | 3 => 6 | 4 => 24 | 5 => 120 | 6 => 720 | 7 => 5040 | _ => 40320
def g_nests : List (String × Nat × MethodName × String) := [("HeatLines", 9, ⟨"HeatLines$Text", "<init>", "()V"⟩, "HeatLines"), ("HeatLines", 18, ⟨"HeatLines$Head", "<init>", "()V"⟩, "HeatLines"), ("HeatLines", 25, ⟨"HeatLines$State", "<init>", "()V"⟩, "HeatLines"), ("HeatLines", 38, ⟨"HeatLines$Run", "<init>", "()V"⟩, "HeatLines"), ("HeatLines$Acts", 17, ⟨"HeatLines$State", "<init>", "()V"⟩, "HeatLines"), ("HeatLines", 52, ⟨"HeatLines$Sights", "<init>", "()V"⟩, "HeatLines"), ("HeatLines$Slots", 21, ⟨"HeatLines$State", "<init>", "()V"⟩, "HeatLines"), ("HeatLines$Head", 78, ⟨"HeatLines", "bit", "(II)I"⟩, "HeatLines"), ("HeatLines$State", 61, ⟨"HeatLines", "isFigurePlace", "(I)Z"⟩, "HeatLines")]
def g_Xt (E : g_E) (A : Nat → Prop) (U : State) : Prop := (∀ q ∈ g_nests, va_Nw (.methodLinkNest q.1 q.2.1 q.2.2.1 q.2.2.2) U) ∧ va_Z "HeatLines" "FACTORIALS" "[I" (.ref E.2.2.2.2) A U U.heap ∧ va_T .int E.2.2.2.2 9 (fun j => .int (g_fc j)) A U U.heap ∧ va_AO "HeatLines$State" U
abbrev g_C : Type := Program × Launch × Env × State × MethodId × Array Value × List Frame × Method × Code × g_E × (Nat → Prop) × Nat × Nat × (State → Prop)
/-- the machine, at pc with these locals, this stack and these cells, comes to its goal -/
def g_G (Γ : g_C) (R : Room) (nL pc : Nat) (ls : List (Nat × Value)) (st : List Value) (ws : va_W) : Prop := match Γ with
  | (p, l, e, s, m, args, below, meth, c, E, A, kc, ks, Q) => ∀ (H : Heap) (locs : List Loc) (la : Array Slot), va_P E.1 vwCl ws H → va_D A ws → va_S A s.heap H locs → lv_has la nL ls → W p l e R s m args below meth c H locs kc ks Q (F0 m pc la st)
def g_X (Γ : g_C) (R : Room) (cc : ByteArray) (own : String) (nL : Nat) : Prop := match Γ with
  | (p, _, _, s, m, args, _, _, c, E, A, kc, ks, _) => p.tables.exec = Jvm.exec ∧ c.code = cc ∧ c.maxLocals = nL ∧ s.vm.findClass own = some m.cls ∧ (∀ w ∈ lw_gw, w.before args s = true) ∧ va_K E.1 vwCl (g_tys E) s ∧ g_Xt E A s ∧ (∀ q, s.heap.size ≤ q → A q) ∧ kc ≤ R.cells ∧ ks ≤ R.slots
section Rows
variable {Γ : g_C} {R : Room} {cc : ByteArray} {own : String} {nL : Nat} {ls : List (Nat × Value)} {st : List Value} {ws : va_W}

theorem g_iload (pc : Nat) (X : g_X Γ R cc own nL) {i : Nat} {x : Int32} (hdg : decode cc pc = .ok (.iload i, 2)) (k : Nat) (hk : ls[k]? = some (i, .int x)) (kk : g_G Γ R nL (pc + 2) ls (.int x :: st) ws) : g_G Γ R nL pc ls (st) ws := by
  obtain ⟨p, l, e, s, m, args, below, meth, c, E, A, kc, ks, Q⟩ := Γ
  obtain ⟨hx, hb, hml, hown, hts, hK, hE, hA, hkc, hks⟩ := X
  intro H locs la hP hD hS hl
  exact lv_iload hx hb hdg (lv_at hl k hk) (kk H locs la hP hD hS hl)

theorem g_iload_n (pc : Nat) (X : g_X Γ R cc own nL) {j : Fin 4} {i : Nat} {x : Int32} (hdg : decode cc pc = .ok (.iload_n j, 1)) (k : Nat) (hk : ls[k]? = some (i, .int x)) (hj : (j : Nat) = i) (kk : g_G Γ R nL (pc + 1) ls (.int x :: st) ws) : g_G Γ R nL pc ls (st) ws := by
  obtain ⟨p, l, e, s, m, args, below, meth, c, E, A, kc, ks, Q⟩ := Γ
  obtain ⟨hx, hb, hml, hown, hts, hK, hE, hA, hkc, hks⟩ := X
  intro H locs la hP hD hS hl
  exact lv_iload_n hx hb hdg hj (lv_at hl k hk) (kk H locs la hP hD hS hl)

theorem g_lload (pc : Nat) (X : g_X Γ R cc own nL) {i : Nat} {x : Int64} (hdg : decode cc pc = .ok (.lload i, 2)) (k : Nat) (hk : ls[k]? = some (i, .long x)) (kk : g_G Γ R nL (pc + 2) ls (.long x :: st) ws) : g_G Γ R nL pc ls (st) ws := by
  obtain ⟨p, l, e, s, m, args, below, meth, c, E, A, kc, ks, Q⟩ := Γ
  obtain ⟨hx, hb, hml, hown, hts, hK, hE, hA, hkc, hks⟩ := X
  intro H locs la hP hD hS hl
  exact lv_lload hx hb hdg (lv_at hl k hk) (kk H locs la hP hD hS hl)

theorem g_lload_n (pc : Nat) (X : g_X Γ R cc own nL) {j : Fin 4} {i : Nat} {x : Int64} (hdg : decode cc pc = .ok (.lload_n j, 1)) (k : Nat) (hk : ls[k]? = some (i, .long x)) (hj : (j : Nat) = i) (kk : g_G Γ R nL (pc + 1) ls (.long x :: st) ws) : g_G Γ R nL pc ls (st) ws := by
  obtain ⟨p, l, e, s, m, args, below, meth, c, E, A, kc, ks, Q⟩ := Γ
  obtain ⟨hx, hb, hml, hown, hts, hK, hE, hA, hkc, hks⟩ := X
  intro H locs la hP hD hS hl
  exact lv_lload_n hx hb hdg hj (lv_at hl k hk) (kk H locs la hP hD hS hl)

theorem g_aload (pc : Nat) (X : g_X Γ R cc own nL) {i : Nat} {x : Nat} (hdg : decode cc pc = .ok (.aload i, 2)) (k : Nat) (hk : ls[k]? = some (i, .ref x)) (kk : g_G Γ R nL (pc + 2) ls (.ref x :: st) ws) : g_G Γ R nL pc ls (st) ws := by
  obtain ⟨p, l, e, s, m, args, below, meth, c, E, A, kc, ks, Q⟩ := Γ
  obtain ⟨hx, hb, hml, hown, hts, hK, hE, hA, hkc, hks⟩ := X
  intro H locs la hP hD hS hl
  exact lv_aload hx hb hdg (lv_at hl k hk) (kk H locs la hP hD hS hl)

theorem g_aload_n (pc : Nat) (X : g_X Γ R cc own nL) {j : Fin 4} {i : Nat} {x : Nat} (hdg : decode cc pc = .ok (.aload_n j, 1)) (k : Nat) (hk : ls[k]? = some (i, .ref x)) (hj : (j : Nat) = i) (kk : g_G Γ R nL (pc + 1) ls (.ref x :: st) ws) : g_G Γ R nL pc ls (st) ws := by
  obtain ⟨p, l, e, s, m, args, below, meth, c, E, A, kc, ks, Q⟩ := Γ
  obtain ⟨hx, hb, hml, hown, hts, hK, hE, hA, hkc, hks⟩ := X
  intro H locs la hP hD hS hl
  exact lv_aload_n hx hb hdg hj (lv_at hl k hk) (kk H locs la hP hD hS hl)

theorem g_istore (pc : Nat) (X : g_X Γ R cc own nL) {i : Nat} {x : Int32} (ls1 : List (Nat × Value)) (hdg : decode cc pc = .ok (.istore i, 2)) (hn : i < nL) (h1 : (i, Value.int x) :: ls.filter (fun q => !(q.1 == i) && !(q.1 + 1 == i && q.2.category == 2)) = ls1) (kk : g_G Γ R nL (pc + 2) ls1 (st) ws) : g_G Γ R nL pc ls (.int x :: st) ws := by
  obtain ⟨p, l, e, s, m, args, below, meth, c, E, A, kc, ks, Q⟩ := Γ
  obtain ⟨hx, hb, hml, hown, hts, hK, hE, hA, hkc, hks⟩ := X
  intro H locs la hP hD hS hl
  exact lv_istore hx hb hdg hl hn h1 (fun la1 hl1 => kk H locs la1 hP hD hS hl1)

theorem g_istore_n (pc : Nat) (X : g_X Γ R cc own nL) {j : Fin 4} {i : Nat} {x : Int32} (ls1 : List (Nat × Value)) (hdg : decode cc pc = .ok (.istore_n j, 1)) (hj : (j : Nat) = i) (hn : i < nL) (h1 : (i, Value.int x) :: ls.filter (fun q => !(q.1 == i) && !(q.1 + 1 == i && q.2.category == 2)) = ls1) (kk : g_G Γ R nL (pc + 1) ls1 (st) ws) : g_G Γ R nL pc ls (.int x :: st) ws := by
  obtain ⟨p, l, e, s, m, args, below, meth, c, E, A, kc, ks, Q⟩ := Γ
  obtain ⟨hx, hb, hml, hown, hts, hK, hE, hA, hkc, hks⟩ := X
  intro H locs la hP hD hS hl
  exact lv_istore_n hx hb hdg hj hl hn h1 (fun la1 hl1 => kk H locs la1 hP hD hS hl1)

theorem g_lstore (pc : Nat) (X : g_X Γ R cc own nL) {i : Nat} {x : Int64} (ls1 : List (Nat × Value)) (hdg : decode cc pc = .ok (.lstore i, 2)) (hn : i + 1 < nL) (h1 : (i, Value.long x) :: ls.filter (fun q => !(q.1 == i) && (!(q.1 == i + 1) && !(q.1 + 1 == i && q.2.category == 2))) = ls1) (kk : g_G Γ R nL (pc + 2) ls1 (st) ws) : g_G Γ R nL pc ls (.long x :: st) ws := by
  obtain ⟨p, l, e, s, m, args, below, meth, c, E, A, kc, ks, Q⟩ := Γ
  obtain ⟨hx, hb, hml, hown, hts, hK, hE, hA, hkc, hks⟩ := X
  intro H locs la hP hD hS hl
  exact lv_lstore hx hb hdg hl hn h1 (fun la1 hl1 => kk H locs la1 hP hD hS hl1)

theorem g_lstore_n (pc : Nat) (X : g_X Γ R cc own nL) {j : Fin 4} {i : Nat} {x : Int64} (ls1 : List (Nat × Value)) (hdg : decode cc pc = .ok (.lstore_n j, 1)) (hj : (j : Nat) = i) (hn : i + 1 < nL) (h1 : (i, Value.long x) :: ls.filter (fun q => !(q.1 == i) && (!(q.1 == i + 1) && !(q.1 + 1 == i && q.2.category == 2))) = ls1) (kk : g_G Γ R nL (pc + 1) ls1 (st) ws) : g_G Γ R nL pc ls (.long x :: st) ws := by
  obtain ⟨p, l, e, s, m, args, below, meth, c, E, A, kc, ks, Q⟩ := Γ
  obtain ⟨hx, hb, hml, hown, hts, hK, hE, hA, hkc, hks⟩ := X
  intro H locs la hP hD hS hl
  exact lv_lstore_n hx hb hdg hj hl hn h1 (fun la1 hl1 => kk H locs la1 hP hD hS hl1)

theorem g_astore_n (pc : Nat) (X : g_X Γ R cc own nL) {j : Fin 4} {i : Nat} {x : Nat} (ls1 : List (Nat × Value)) (hdg : decode cc pc = .ok (.astore_n j, 1)) (hj : (j : Nat) = i) (hn : i < nL) (h1 : (i, Value.ref x) :: ls.filter (fun q => !(q.1 == i) && !(q.1 + 1 == i && q.2.category == 2)) = ls1) (kk : g_G Γ R nL (pc + 1) ls1 (st) ws) : g_G Γ R nL pc ls (.ref x :: st) ws := by
  obtain ⟨p, l, e, s, m, args, below, meth, c, E, A, kc, ks, Q⟩ := Γ
  obtain ⟨hx, hb, hml, hown, hts, hK, hE, hA, hkc, hks⟩ := X
  intro H locs la hP hD hS hl
  exact lv_astore_n hx hb hdg hj hl hn h1 (fun la1 hl1 => kk H locs la1 hP hD hS hl1)

theorem g_iinc (pc : Nat) (X : g_X Γ R cc own nL) {i : Nat} {n : Int} {x : Int32} (v : Int32) (ls1 : List (Nat × Value)) (hdg : decode cc pc = .ok (.iinc i n, 3)) (k : Nat) (hk : ls[k]? = some (i, .int x)) (hv : x + Int32.ofInt n = v) (hn : i < nL) (h1 : (i, Value.int v) :: ls.filter (fun q => !(q.1 == i) && !(q.1 + 1 == i && q.2.category == 2)) = ls1) (kk : g_G Γ R nL (pc + 3) ls1 (st) ws) : g_G Γ R nL pc ls (st) ws := by
  obtain ⟨p, l, e, s, m, args, below, meth, c, E, A, kc, ks, Q⟩ := Γ
  obtain ⟨hx, hb, hml, hown, hts, hK, hE, hA, hkc, hks⟩ := X
  intro H locs la hP hD hS hl
  exact lv_iinc hx hb hdg hl hk hv hn h1 (fun la1 hl1 => kk H locs la1 hP hD hS hl1)

theorem g_iconst (pc : Nat) (X : g_X Γ R cc own nL) {n : Int} (v : Int32) (hdg : decode cc pc = .ok (.iconst n, 1)) (hv : Int32.ofInt n = v) (kk : g_G Γ R nL (pc + 1) ls (.int v :: st) ws) : g_G Γ R nL pc ls (st) ws := by
  obtain ⟨p, l, e, s, m, args, below, meth, c, E, A, kc, ks, Q⟩ := Γ
  obtain ⟨hx, hb, hml, hown, hts, hK, hE, hA, hkc, hks⟩ := X
  intro H locs la hP hD hS hl
  exact lv_iconst hx hb hdg hv (kk H locs la hP hD hS hl)

theorem g_bipush (pc : Nat) (X : g_X Γ R cc own nL) {n : Int} (v : Int32) (hdg : decode cc pc = .ok (.bipush n, 2)) (hv : (Int8.ofInt n).toInt32 = v) (kk : g_G Γ R nL (pc + 2) ls (.int v :: st) ws) : g_G Γ R nL pc ls (st) ws := by
  obtain ⟨p, l, e, s, m, args, below, meth, c, E, A, kc, ks, Q⟩ := Γ
  obtain ⟨hx, hb, hml, hown, hts, hK, hE, hA, hkc, hks⟩ := X
  intro H locs la hP hD hS hl
  exact lv_bipush hx hb hdg hv (kk H locs la hP hD hS hl)

theorem g_sipush (pc : Nat) (X : g_X Γ R cc own nL) {n : Int} (v : Int32) (hdg : decode cc pc = .ok (.sipush n, 3)) (hv : (Int16.ofInt n).toInt32 = v) (kk : g_G Γ R nL (pc + 3) ls (.int v :: st) ws) : g_G Γ R nL pc ls (st) ws := by
  obtain ⟨p, l, e, s, m, args, below, meth, c, E, A, kc, ks, Q⟩ := Γ
  obtain ⟨hx, hb, hml, hown, hts, hK, hE, hA, hkc, hks⟩ := X
  intro H locs la hP hD hS hl
  exact lv_sipush hx hb hdg hv (kk H locs la hP hD hS hl)

theorem g_lconst (pc : Nat) (X : g_X Γ R cc own nL) {n : Fin 2} (v : Int64) (hdg : decode cc pc = .ok (.lconst n, 1)) (hv : Int64.ofNat (n : Nat) = v) (kk : g_G Γ R nL (pc + 1) ls (.long v :: st) ws) : g_G Γ R nL pc ls (st) ws := by
  obtain ⟨p, l, e, s, m, args, below, meth, c, E, A, kc, ks, Q⟩ := Γ
  obtain ⟨hx, hb, hml, hown, hts, hK, hE, hA, hkc, hks⟩ := X
  intro H locs la hP hD hS hl
  exact lv_lconst hx hb hdg hv (kk H locs la hP hD hS hl)

theorem g_ldc2 (pc : Nat) (X : g_X Γ R cc own nL) {index : Nat} {v : Int64} (hdg : decode cc pc = .ok (.ldc2_w index, 3)) (hc : Cond.constantLong own index v ∈ lw_gw) (kk : g_G Γ R nL (pc + 3) ls (.long v :: st) ws) : g_G Γ R nL pc ls (st) ws := by
  obtain ⟨p, l, e, s, m, args, below, meth, c, E, A, kc, ks, Q⟩ := Γ
  obtain ⟨hx, hb, hml, hown, hts, hK, hE, hA, hkc, hks⟩ := X
  intro H locs la hP hD hS hl
  exact lv_ldc2 hx hb hown (hts _ hc) hdg (kk H locs la hP hD hS hl)

theorem g_ldcw (pc : Nat) (X : g_X Γ R cc own nL) {index : Nat} {v : Int32} (hdg : decode cc pc = .ok (.ldc_w index, 3)) (hc : Cond.constant own index v ∈ lw_gw) (kk : g_G Γ R nL (pc + 3) ls (.int v :: st) ws) : g_G Γ R nL pc ls (st) ws := by
  obtain ⟨p, l, e, s, m, args, below, meth, c, E, A, kc, ks, Q⟩ := Γ
  obtain ⟨hx, hb, hml, hown, hts, hK, hE, hA, hkc, hks⟩ := X
  intro H locs la hP hD hS hl
  exact lv_ldcw hx hb hown (hts _ hc) hdg (kk H locs la hP hD hS hl)

theorem g_iadd (pc : Nat) (X : g_X Γ R cc own nL) {x y : Int32} (hdg : decode cc pc = .ok (.iadd, 1)) (kk : g_G Γ R nL (pc + 1) ls (.int (x + y) :: st) ws) : g_G Γ R nL pc ls (.int y :: .int x :: st) ws := by
  obtain ⟨p, l, e, s, m, args, below, meth, c, E, A, kc, ks, Q⟩ := Γ
  obtain ⟨hx, hb, hml, hown, hts, hK, hE, hA, hkc, hks⟩ := X
  intro H locs la hP hD hS hl
  exact lv_iadd hx hb hdg (kk H locs la hP hD hS hl)

theorem g_isub (pc : Nat) (X : g_X Γ R cc own nL) {x y : Int32} (hdg : decode cc pc = .ok (.isub, 1)) (kk : g_G Γ R nL (pc + 1) ls (.int (x - y) :: st) ws) : g_G Γ R nL pc ls (.int y :: .int x :: st) ws := by
  obtain ⟨p, l, e, s, m, args, below, meth, c, E, A, kc, ks, Q⟩ := Γ
  obtain ⟨hx, hb, hml, hown, hts, hK, hE, hA, hkc, hks⟩ := X
  intro H locs la hP hD hS hl
  exact lv_isub hx hb hdg (kk H locs la hP hD hS hl)

theorem g_imul (pc : Nat) (X : g_X Γ R cc own nL) {x y : Int32} (hdg : decode cc pc = .ok (.imul, 1)) (kk : g_G Γ R nL (pc + 1) ls (.int (x * y) :: st) ws) : g_G Γ R nL pc ls (.int y :: .int x :: st) ws := by
  obtain ⟨p, l, e, s, m, args, below, meth, c, E, A, kc, ks, Q⟩ := Γ
  obtain ⟨hx, hb, hml, hown, hts, hK, hE, hA, hkc, hks⟩ := X
  intro H locs la hP hD hS hl
  exact lv_imul hx hb hdg (kk H locs la hP hD hS hl)

theorem g_iand (pc : Nat) (X : g_X Γ R cc own nL) {x y : Int32} (hdg : decode cc pc = .ok (.iand, 1)) (kk : g_G Γ R nL (pc + 1) ls (.int (x &&& y) :: st) ws) : g_G Γ R nL pc ls (.int y :: .int x :: st) ws := by
  obtain ⟨p, l, e, s, m, args, below, meth, c, E, A, kc, ks, Q⟩ := Γ
  obtain ⟨hx, hb, hml, hown, hts, hK, hE, hA, hkc, hks⟩ := X
  intro H locs la hP hD hS hl
  exact lv_iand hx hb hdg (kk H locs la hP hD hS hl)

theorem g_ior (pc : Nat) (X : g_X Γ R cc own nL) {x y : Int32} (hdg : decode cc pc = .ok (.ior, 1)) (kk : g_G Γ R nL (pc + 1) ls (.int (x ||| y) :: st) ws) : g_G Γ R nL pc ls (.int y :: .int x :: st) ws := by
  obtain ⟨p, l, e, s, m, args, below, meth, c, E, A, kc, ks, Q⟩ := Γ
  obtain ⟨hx, hb, hml, hown, hts, hK, hE, hA, hkc, hks⟩ := X
  intro H locs la hP hD hS hl
  exact lv_ior hx hb hdg (kk H locs la hP hD hS hl)

theorem g_ixor (pc : Nat) (X : g_X Γ R cc own nL) {x y : Int32} (hdg : decode cc pc = .ok (.ixor, 1)) (kk : g_G Γ R nL (pc + 1) ls (.int (x ^^^ y) :: st) ws) : g_G Γ R nL pc ls (.int y :: .int x :: st) ws := by
  obtain ⟨p, l, e, s, m, args, below, meth, c, E, A, kc, ks, Q⟩ := Γ
  obtain ⟨hx, hb, hml, hown, hts, hK, hE, hA, hkc, hks⟩ := X
  intro H locs la hP hD hS hl
  exact lv_ixor hx hb hdg (kk H locs la hP hD hS hl)

theorem g_ishl (pc : Nat) (X : g_X Γ R cc own nL) {x y : Int32} (hdg : decode cc pc = .ok (.ishl, 1)) (kk : g_G Γ R nL (pc + 1) ls (.int (x <<< (y &&& 31)) :: st) ws) : g_G Γ R nL pc ls (.int y :: .int x :: st) ws := by
  obtain ⟨p, l, e, s, m, args, below, meth, c, E, A, kc, ks, Q⟩ := Γ
  obtain ⟨hx, hb, hml, hown, hts, hK, hE, hA, hkc, hks⟩ := X
  intro H locs la hP hD hS hl
  exact lv_ishl hx hb hdg (kk H locs la hP hD hS hl)

theorem g_ishr (pc : Nat) (X : g_X Γ R cc own nL) {x y : Int32} (hdg : decode cc pc = .ok (.ishr, 1)) (kk : g_G Γ R nL (pc + 1) ls (.int (x >>> (y &&& 31)) :: st) ws) : g_G Γ R nL pc ls (.int y :: .int x :: st) ws := by
  obtain ⟨p, l, e, s, m, args, below, meth, c, E, A, kc, ks, Q⟩ := Γ
  obtain ⟨hx, hb, hml, hown, hts, hK, hE, hA, hkc, hks⟩ := X
  intro H locs la hP hD hS hl
  exact lv_ishr hx hb hdg (kk H locs la hP hD hS hl)

theorem g_idiv (pc : Nat) (X : g_X Γ R cc own nL) {x y : Int32} (hdg : decode cc pc = .ok (.idiv, 1)) (hne : ¬ y = 0) (kk : g_G Γ R nL (pc + 1) ls (.int (x / y) :: st) ws) : g_G Γ R nL pc ls (.int y :: .int x :: st) ws := by
  obtain ⟨p, l, e, s, m, args, below, meth, c, E, A, kc, ks, Q⟩ := Γ
  obtain ⟨hx, hb, hml, hown, hts, hK, hE, hA, hkc, hks⟩ := X
  intro H locs la hP hD hS hl
  exact lv_idiv hx hb hdg hne (kk H locs la hP hD hS hl)

theorem g_irem (pc : Nat) (X : g_X Γ R cc own nL) {x y : Int32} (hdg : decode cc pc = .ok (.irem, 1)) (hne : ¬ y = 0) (kk : g_G Γ R nL (pc + 1) ls (.int (x - x / y * y) :: st) ws) : g_G Γ R nL pc ls (.int y :: .int x :: st) ws := by
  obtain ⟨p, l, e, s, m, args, below, meth, c, E, A, kc, ks, Q⟩ := Γ
  obtain ⟨hx, hb, hml, hown, hts, hK, hE, hA, hkc, hks⟩ := X
  intro H locs la hP hD hS hl
  exact lv_irem hx hb hdg hne (kk H locs la hP hD hS hl)

theorem g_iushr (pc : Nat) (X : g_X Γ R cc own nL) {x y : Int32} (hdg : decode cc pc = .ok (.iushr, 1)) (kk : g_G Γ R nL (pc + 1) ls (.int ((x.toUInt32 >>> (y.toUInt32 &&& Int32.toUInt32 31)).toInt32) :: st) ws) : g_G Γ R nL pc ls (.int y :: .int x :: st) ws := by
  obtain ⟨p, l, e, s, m, args, below, meth, c, E, A, kc, ks, Q⟩ := Γ
  obtain ⟨hx, hb, hml, hown, hts, hK, hE, hA, hkc, hks⟩ := X
  intro H locs la hP hD hS hl
  exact lv_iushr hx hb hdg rfl (kk H locs la hP hD hS hl)

theorem g_ineg (pc : Nat) (X : g_X Γ R cc own nL) {x : Int32} (hdg : decode cc pc = .ok (.ineg, 1)) (kk : g_G Γ R nL (pc + 1) ls (.int (-x) :: st) ws) : g_G Γ R nL pc ls (.int x :: st) ws := by
  obtain ⟨p, l, e, s, m, args, below, meth, c, E, A, kc, ks, Q⟩ := Γ
  obtain ⟨hx, hb, hml, hown, hts, hK, hE, hA, hkc, hks⟩ := X
  intro H locs la hP hD hS hl
  exact lv_ineg hx hb hdg (kk H locs la hP hD hS hl)

theorem g_ladd (pc : Nat) (X : g_X Γ R cc own nL) {x y : Int64} (hdg : decode cc pc = .ok (.ladd, 1)) (kk : g_G Γ R nL (pc + 1) ls (.long (x + y) :: st) ws) : g_G Γ R nL pc ls (.long y :: .long x :: st) ws := by
  obtain ⟨p, l, e, s, m, args, below, meth, c, E, A, kc, ks, Q⟩ := Γ
  obtain ⟨hx, hb, hml, hown, hts, hK, hE, hA, hkc, hks⟩ := X
  intro H locs la hP hD hS hl
  exact lv_ladd hx hb hdg (kk H locs la hP hD hS hl)

theorem g_lsub (pc : Nat) (X : g_X Γ R cc own nL) {x y : Int64} (hdg : decode cc pc = .ok (.lsub, 1)) (kk : g_G Γ R nL (pc + 1) ls (.long (x - y) :: st) ws) : g_G Γ R nL pc ls (.long y :: .long x :: st) ws := by
  obtain ⟨p, l, e, s, m, args, below, meth, c, E, A, kc, ks, Q⟩ := Γ
  obtain ⟨hx, hb, hml, hown, hts, hK, hE, hA, hkc, hks⟩ := X
  intro H locs la hP hD hS hl
  exact lv_lsub hx hb hdg (kk H locs la hP hD hS hl)

theorem g_lmul (pc : Nat) (X : g_X Γ R cc own nL) {x y : Int64} (hdg : decode cc pc = .ok (.lmul, 1)) (kk : g_G Γ R nL (pc + 1) ls (.long (x * y) :: st) ws) : g_G Γ R nL pc ls (.long y :: .long x :: st) ws := by
  obtain ⟨p, l, e, s, m, args, below, meth, c, E, A, kc, ks, Q⟩ := Γ
  obtain ⟨hx, hb, hml, hown, hts, hK, hE, hA, hkc, hks⟩ := X
  intro H locs la hP hD hS hl
  exact lv_lmul hx hb hdg (kk H locs la hP hD hS hl)

theorem g_land (pc : Nat) (X : g_X Γ R cc own nL) {x y : Int64} (hdg : decode cc pc = .ok (.land, 1)) (kk : g_G Γ R nL (pc + 1) ls (.long (x &&& y) :: st) ws) : g_G Γ R nL pc ls (.long y :: .long x :: st) ws := by
  obtain ⟨p, l, e, s, m, args, below, meth, c, E, A, kc, ks, Q⟩ := Γ
  obtain ⟨hx, hb, hml, hown, hts, hK, hE, hA, hkc, hks⟩ := X
  intro H locs la hP hD hS hl
  exact lv_land hx hb hdg (kk H locs la hP hD hS hl)

theorem g_lor (pc : Nat) (X : g_X Γ R cc own nL) {x y : Int64} (hdg : decode cc pc = .ok (.lor, 1)) (kk : g_G Γ R nL (pc + 1) ls (.long (x ||| y) :: st) ws) : g_G Γ R nL pc ls (.long y :: .long x :: st) ws := by
  obtain ⟨p, l, e, s, m, args, below, meth, c, E, A, kc, ks, Q⟩ := Γ
  obtain ⟨hx, hb, hml, hown, hts, hK, hE, hA, hkc, hks⟩ := X
  intro H locs la hP hD hS hl
  exact lv_lor hx hb hdg (kk H locs la hP hD hS hl)

theorem g_ldiv (pc : Nat) (X : g_X Γ R cc own nL) {x y : Int64} (hdg : decode cc pc = .ok (.ldiv, 1)) (hne : ¬ y = 0) (kk : g_G Γ R nL (pc + 1) ls (.long (x / y) :: st) ws) : g_G Γ R nL pc ls (.long y :: .long x :: st) ws := by
  obtain ⟨p, l, e, s, m, args, below, meth, c, E, A, kc, ks, Q⟩ := Γ
  obtain ⟨hx, hb, hml, hown, hts, hK, hE, hA, hkc, hks⟩ := X
  intro H locs la hP hD hS hl
  exact lv_ldiv hx hb hdg hne (kk H locs la hP hD hS hl)

theorem g_lrem (pc : Nat) (X : g_X Γ R cc own nL) {x y : Int64} (hdg : decode cc pc = .ok (.lrem, 1)) (hne : ¬ y = 0) (kk : g_G Γ R nL (pc + 1) ls (.long (x - x / y * y) :: st) ws) : g_G Γ R nL pc ls (.long y :: .long x :: st) ws := by
  obtain ⟨p, l, e, s, m, args, below, meth, c, E, A, kc, ks, Q⟩ := Γ
  obtain ⟨hx, hb, hml, hown, hts, hK, hE, hA, hkc, hks⟩ := X
  intro H locs la hP hD hS hl
  exact lv_lrem hx hb hdg hne (kk H locs la hP hD hS hl)

theorem g_lshl (pc : Nat) (X : g_X Γ R cc own nL) {x : Int64} {y : Int32} (hdg : decode cc pc = .ok (.lshl, 1)) (kk : g_G Γ R nL (pc + 1) ls (.long (x <<< (y.toInt64 &&& 63)) :: st) ws) : g_G Γ R nL pc ls (.int y :: .long x :: st) ws := by
  obtain ⟨p, l, e, s, m, args, below, meth, c, E, A, kc, ks, Q⟩ := Γ
  obtain ⟨hx, hb, hml, hown, hts, hK, hE, hA, hkc, hks⟩ := X
  intro H locs la hP hD hS hl
  exact lv_lshl hx hb hdg rfl (kk H locs la hP hD hS hl)

theorem g_lushr (pc : Nat) (X : g_X Γ R cc own nL) {x : Int64} {y : Int32} (hdg : decode cc pc = .ok (.lushr, 1)) (kk : g_G Γ R nL (pc + 1) ls (.long ((x.toUInt64 >>> (y.toInt64.toUInt64 &&& Int64.toUInt64 63)).toInt64) :: st) ws) : g_G Γ R nL pc ls (.int y :: .long x :: st) ws := by
  obtain ⟨p, l, e, s, m, args, below, meth, c, E, A, kc, ks, Q⟩ := Γ
  obtain ⟨hx, hb, hml, hown, hts, hK, hE, hA, hkc, hks⟩ := X
  intro H locs la hP hD hS hl
  exact lv_lushr hx hb hdg rfl (kk H locs la hP hD hS hl)

theorem g_lneg (pc : Nat) (X : g_X Γ R cc own nL) {x : Int64} (hdg : decode cc pc = .ok (.lneg, 1)) (kk : g_G Γ R nL (pc + 1) ls (.long (-x) :: st) ws) : g_G Γ R nL pc ls (.long x :: st) ws := by
  obtain ⟨p, l, e, s, m, args, below, meth, c, E, A, kc, ks, Q⟩ := Γ
  obtain ⟨hx, hb, hml, hown, hts, hK, hE, hA, hkc, hks⟩ := X
  intro H locs la hP hD hS hl
  exact lv_lneg hx hb hdg (kk H locs la hP hD hS hl)

theorem g_i2l (pc : Nat) (X : g_X Γ R cc own nL) {x : Int32} (hdg : decode cc pc = .ok (.i2l, 1)) (kk : g_G Γ R nL (pc + 1) ls (.long x.toInt64 :: st) ws) : g_G Γ R nL pc ls (.int x :: st) ws := by
  obtain ⟨p, l, e, s, m, args, below, meth, c, E, A, kc, ks, Q⟩ := Γ
  obtain ⟨hx, hb, hml, hown, hts, hK, hE, hA, hkc, hks⟩ := X
  intro H locs la hP hD hS hl
  exact lv_i2l hx hb hdg rfl (kk H locs la hP hD hS hl)

theorem g_l2i (pc : Nat) (X : g_X Γ R cc own nL) {x : Int64} (hdg : decode cc pc = .ok (.l2i, 1)) (kk : g_G Γ R nL (pc + 1) ls (.int x.toInt32 :: st) ws) : g_G Γ R nL pc ls (.long x :: st) ws := by
  obtain ⟨p, l, e, s, m, args, below, meth, c, E, A, kc, ks, Q⟩ := Γ
  obtain ⟨hx, hb, hml, hown, hts, hK, hE, hA, hkc, hks⟩ := X
  intro H locs la hP hD hS hl
  exact lv_l2i hx hb hdg rfl (kk H locs la hP hD hS hl)

theorem g_dup (pc : Nat) (X : g_X Γ R cc own nL) {va : Value} (hdg : decode cc pc = .ok (.dup, 1)) (hva : va.category = 1) (kk : g_G Γ R nL (pc + 1) ls (va :: va :: st) ws) : g_G Γ R nL pc ls (va :: st) ws := by
  obtain ⟨p, l, e, s, m, args, below, meth, c, E, A, kc, ks, Q⟩ := Γ
  obtain ⟨hx, hb, hml, hown, hts, hK, hE, hA, hkc, hks⟩ := X
  intro H locs la hP hD hS hl
  exact lv_dup hx hb hdg hva (kk H locs la hP hD hS hl)

theorem g_dup2 (pc : Nat) (X : g_X Γ R cc own nL) {va vb : Value} (hdg : decode cc pc = .ok (.dup2, 1)) (hva : va.category = 1) (hvb : vb.category = 1) (kk : g_G Γ R nL (pc + 1) ls (va :: vb :: va :: vb :: st) ws) : g_G Γ R nL pc ls (va :: vb :: st) ws := by
  obtain ⟨p, l, e, s, m, args, below, meth, c, E, A, kc, ks, Q⟩ := Γ
  obtain ⟨hx, hb, hml, hown, hts, hK, hE, hA, hkc, hks⟩ := X
  intro H locs la hP hD hS hl
  exact lv_dup2_11 hx hb hdg hva hvb (kk H locs la hP hD hS hl)

theorem g_pop (pc : Nat) (X : g_X Γ R cc own nL) {va : Value} (hdg : decode cc pc = .ok (.pop, 1)) (hva : va.category = 1) (kk : g_G Γ R nL (pc + 1) ls (st) ws) : g_G Γ R nL pc ls (va :: st) ws := by
  obtain ⟨p, l, e, s, m, args, below, meth, c, E, A, kc, ks, Q⟩ := Γ
  obtain ⟨hx, hb, hml, hown, hts, hK, hE, hA, hkc, hks⟩ := X
  intro H locs la hP hD hS hl
  exact lv_pop hx hb hdg hva (kk H locs la hP hD hS hl)

theorem g_icmp_eq (pc : Nat) (X : g_X Γ R cc own nL) {x y : Int32} {off : Int} (tgt : Nat) (hdg : decode cc pc = .ok (.if_icmp .eq off, 3)) (ht : (pc : Int) + off = (tgt : Int)) (kt : (x = y) → g_G Γ R nL tgt ls st ws) (kf : ¬ (x = y) → g_G Γ R nL (pc + 3) ls st ws) : g_G Γ R nL pc ls (.int y :: .int x :: st) ws := by
  obtain ⟨p, l, e, s, m, args, below, meth, c, E, A, kc, ks, Q⟩ := Γ
  obtain ⟨hx, hb, hml, hown, hts, hK, hE, hA, hkc, hks⟩ := X
  intro H locs la hP hD hS hl
  exact lv_icmp_eq hx hb hdg ht (fun h => kt h H locs la hP hD hS hl) (fun h => kf h H locs la hP hD hS hl)

theorem g_icmp_ne (pc : Nat) (X : g_X Γ R cc own nL) {x y : Int32} {off : Int} (tgt : Nat) (hdg : decode cc pc = .ok (.if_icmp .ne off, 3)) (ht : (pc : Int) + off = (tgt : Int)) (kt : (¬ x = y) → g_G Γ R nL tgt ls st ws) (kf : x = y → g_G Γ R nL (pc + 3) ls st ws) : g_G Γ R nL pc ls (.int y :: .int x :: st) ws := by
  obtain ⟨p, l, e, s, m, args, below, meth, c, E, A, kc, ks, Q⟩ := Γ
  obtain ⟨hx, hb, hml, hown, hts, hK, hE, hA, hkc, hks⟩ := X
  intro H locs la hP hD hS hl
  exact lv_icmp_ne hx hb hdg ht (fun h => kt h H locs la hP hD hS hl) (fun h => kf h H locs la hP hD hS hl)

theorem g_icmp_lt (pc : Nat) (X : g_X Γ R cc own nL) {x y : Int32} {off : Int} (tgt : Nat) (hdg : decode cc pc = .ok (.if_icmp .lt off, 3)) (ht : (pc : Int) + off = (tgt : Int)) (kt : (x < y) → g_G Γ R nL tgt ls st ws) (kf : ¬ (x < y) → g_G Γ R nL (pc + 3) ls st ws) : g_G Γ R nL pc ls (.int y :: .int x :: st) ws := by
  obtain ⟨p, l, e, s, m, args, below, meth, c, E, A, kc, ks, Q⟩ := Γ
  obtain ⟨hx, hb, hml, hown, hts, hK, hE, hA, hkc, hks⟩ := X
  intro H locs la hP hD hS hl
  exact lv_icmp_lt hx hb hdg ht (fun h => kt h H locs la hP hD hS hl) (fun h => kf h H locs la hP hD hS hl)

theorem g_icmp_ge (pc : Nat) (X : g_X Γ R cc own nL) {x y : Int32} {off : Int} (tgt : Nat) (hdg : decode cc pc = .ok (.if_icmp .ge off, 3)) (ht : (pc : Int) + off = (tgt : Int)) (kt : (y ≤ x) → g_G Γ R nL tgt ls st ws) (kf : ¬ (y ≤ x) → g_G Γ R nL (pc + 3) ls st ws) : g_G Γ R nL pc ls (.int y :: .int x :: st) ws := by
  obtain ⟨p, l, e, s, m, args, below, meth, c, E, A, kc, ks, Q⟩ := Γ
  obtain ⟨hx, hb, hml, hown, hts, hK, hE, hA, hkc, hks⟩ := X
  intro H locs la hP hD hS hl
  exact lv_icmp_ge hx hb hdg ht (fun h => kt h H locs la hP hD hS hl) (fun h => kf h H locs la hP hD hS hl)

theorem g_icmp_gt (pc : Nat) (X : g_X Γ R cc own nL) {x y : Int32} {off : Int} (tgt : Nat) (hdg : decode cc pc = .ok (.if_icmp .gt off, 3)) (ht : (pc : Int) + off = (tgt : Int)) (kt : (y < x) → g_G Γ R nL tgt ls st ws) (kf : ¬ (y < x) → g_G Γ R nL (pc + 3) ls st ws) : g_G Γ R nL pc ls (.int y :: .int x :: st) ws := by
  obtain ⟨p, l, e, s, m, args, below, meth, c, E, A, kc, ks, Q⟩ := Γ
  obtain ⟨hx, hb, hml, hown, hts, hK, hE, hA, hkc, hks⟩ := X
  intro H locs la hP hD hS hl
  exact lv_icmp_gt hx hb hdg ht (fun h => kt h H locs la hP hD hS hl) (fun h => kf h H locs la hP hD hS hl)

theorem g_icmp_le (pc : Nat) (X : g_X Γ R cc own nL) {x y : Int32} {off : Int} (tgt : Nat) (hdg : decode cc pc = .ok (.if_icmp .le off, 3)) (ht : (pc : Int) + off = (tgt : Int)) (kt : (x ≤ y) → g_G Γ R nL tgt ls st ws) (kf : ¬ (x ≤ y) → g_G Γ R nL (pc + 3) ls st ws) : g_G Γ R nL pc ls (.int y :: .int x :: st) ws := by
  obtain ⟨p, l, e, s, m, args, below, meth, c, E, A, kc, ks, Q⟩ := Γ
  obtain ⟨hx, hb, hml, hown, hts, hK, hE, hA, hkc, hks⟩ := X
  intro H locs la hP hD hS hl
  exact lv_icmp_le hx hb hdg ht (fun h => kt h H locs la hP hD hS hl) (fun h => kf h H locs la hP hD hS hl)

theorem g_if_eq (pc : Nat) (X : g_X Γ R cc own nL) {x : Int32} {off : Int} (tgt : Nat) (hdg : decode cc pc = .ok (.ifCond .eq off, 3)) (ht : (pc : Int) + off = (tgt : Int)) (kt : (x = 0) → g_G Γ R nL tgt ls st ws) (kf : ¬ (x = 0) → g_G Γ R nL (pc + 3) ls st ws) : g_G Γ R nL pc ls (.int x :: st) ws := by
  obtain ⟨p, l, e, s, m, args, below, meth, c, E, A, kc, ks, Q⟩ := Γ
  obtain ⟨hx, hb, hml, hown, hts, hK, hE, hA, hkc, hks⟩ := X
  intro H locs la hP hD hS hl
  exact lv_if_eq hx hb hdg ht (fun h => kt h H locs la hP hD hS hl) (fun h => kf h H locs la hP hD hS hl)

theorem g_if_ne (pc : Nat) (X : g_X Γ R cc own nL) {x : Int32} {off : Int} (tgt : Nat) (hdg : decode cc pc = .ok (.ifCond .ne off, 3)) (ht : (pc : Int) + off = (tgt : Int)) (kt : (¬ x = 0) → g_G Γ R nL tgt ls st ws) (kf : x = 0 → g_G Γ R nL (pc + 3) ls st ws) : g_G Γ R nL pc ls (.int x :: st) ws := by
  obtain ⟨p, l, e, s, m, args, below, meth, c, E, A, kc, ks, Q⟩ := Γ
  obtain ⟨hx, hb, hml, hown, hts, hK, hE, hA, hkc, hks⟩ := X
  intro H locs la hP hD hS hl
  exact lv_if_ne hx hb hdg ht (fun h => kt h H locs la hP hD hS hl) (fun h => kf h H locs la hP hD hS hl)

theorem g_if_lt (pc : Nat) (X : g_X Γ R cc own nL) {x : Int32} {off : Int} (tgt : Nat) (hdg : decode cc pc = .ok (.ifCond .lt off, 3)) (ht : (pc : Int) + off = (tgt : Int)) (kt : (x < 0) → g_G Γ R nL tgt ls st ws) (kf : ¬ (x < 0) → g_G Γ R nL (pc + 3) ls st ws) : g_G Γ R nL pc ls (.int x :: st) ws := by
  obtain ⟨p, l, e, s, m, args, below, meth, c, E, A, kc, ks, Q⟩ := Γ
  obtain ⟨hx, hb, hml, hown, hts, hK, hE, hA, hkc, hks⟩ := X
  intro H locs la hP hD hS hl
  exact lv_if_lt hx hb hdg ht (fun h => kt h H locs la hP hD hS hl) (fun h => kf h H locs la hP hD hS hl)

theorem g_if_ge (pc : Nat) (X : g_X Γ R cc own nL) {x : Int32} {off : Int} (tgt : Nat) (hdg : decode cc pc = .ok (.ifCond .ge off, 3)) (ht : (pc : Int) + off = (tgt : Int)) (kt : (0 ≤ x) → g_G Γ R nL tgt ls st ws) (kf : ¬ (0 ≤ x) → g_G Γ R nL (pc + 3) ls st ws) : g_G Γ R nL pc ls (.int x :: st) ws := by
  obtain ⟨p, l, e, s, m, args, below, meth, c, E, A, kc, ks, Q⟩ := Γ
  obtain ⟨hx, hb, hml, hown, hts, hK, hE, hA, hkc, hks⟩ := X
  intro H locs la hP hD hS hl
  exact lv_if_ge hx hb hdg ht (fun h => kt h H locs la hP hD hS hl) (fun h => kf h H locs la hP hD hS hl)

theorem g_if_gt (pc : Nat) (X : g_X Γ R cc own nL) {x : Int32} {off : Int} (tgt : Nat) (hdg : decode cc pc = .ok (.ifCond .gt off, 3)) (ht : (pc : Int) + off = (tgt : Int)) (kt : (0 < x) → g_G Γ R nL tgt ls st ws) (kf : ¬ (0 < x) → g_G Γ R nL (pc + 3) ls st ws) : g_G Γ R nL pc ls (.int x :: st) ws := by
  obtain ⟨p, l, e, s, m, args, below, meth, c, E, A, kc, ks, Q⟩ := Γ
  obtain ⟨hx, hb, hml, hown, hts, hK, hE, hA, hkc, hks⟩ := X
  intro H locs la hP hD hS hl
  exact lv_if_gt hx hb hdg ht (fun h => kt h H locs la hP hD hS hl) (fun h => kf h H locs la hP hD hS hl)

theorem g_if_le (pc : Nat) (X : g_X Γ R cc own nL) {x : Int32} {off : Int} (tgt : Nat) (hdg : decode cc pc = .ok (.ifCond .le off, 3)) (ht : (pc : Int) + off = (tgt : Int)) (kt : (x ≤ 0) → g_G Γ R nL tgt ls st ws) (kf : ¬ (x ≤ 0) → g_G Γ R nL (pc + 3) ls st ws) : g_G Γ R nL pc ls (.int x :: st) ws := by
  obtain ⟨p, l, e, s, m, args, below, meth, c, E, A, kc, ks, Q⟩ := Γ
  obtain ⟨hx, hb, hml, hown, hts, hK, hE, hA, hkc, hks⟩ := X
  intro H locs la hP hD hS hl
  exact lv_if_le hx hb hdg ht (fun h => kt h H locs la hP hD hS hl) (fun h => kf h H locs la hP hD hS hl)

theorem g_goto (pc : Nat) (X : g_X Γ R cc own nL) {off : Int} (tgt : Nat) (hdg : decode cc pc = .ok (.goto off, 3)) (ht : (pc : Int) + off = (tgt : Int)) (kk : g_G Γ R nL tgt ls st ws) : g_G Γ R nL pc ls st ws := by
  obtain ⟨p, l, e, s, m, args, below, meth, c, E, A, kc, ks, Q⟩ := Γ
  obtain ⟨hx, hb, hml, hown, hts, hK, hE, hA, hkc, hks⟩ := X
  intro H locs la hP hD hS hl
  exact lv_goto hx hb hdg ht (kk H locs la hP hD hS hl)

theorem g_tableIn (pc : Nat) (X : g_X Γ R cc own nL) {dflt lo hi : Int} {offs : Array Int} {len : Nat} {x : Int32} (off : Int) (tgt : Nat) (hdg : decode cc pc = .ok (.tableswitch dflt lo hi offs, len)) (h1 : ¬ x.toInt < lo) (h2 : ¬ hi < x.toInt) (ho : offs[(x.toInt - lo).toNat]? = some off) (ht : (pc : Int) + off = (tgt : Int)) (kk : g_G Γ R nL tgt ls st ws) : g_G Γ R nL pc ls (.int x :: st) ws := by
  obtain ⟨p, l, e, s, m, args, below, meth, c, E, A, kc, ks, Q⟩ := Γ
  obtain ⟨hx, hb, hml, hown, hts, hK, hE, hA, hkc, hks⟩ := X
  intro H locs la hP hD hS hl
  exact lv_tableIn hx hb hdg h1 h2 ho ht (kk H locs la hP hD hS hl)

theorem g_tableOut (pc : Nat) (X : g_X Γ R cc own nL) {dflt lo hi : Int} {offs : Array Int} {len : Nat} {x : Int32} (tgt : Nat) (hdg : decode cc pc = .ok (.tableswitch dflt lo hi offs, len)) (h : x.toInt < lo ∨ hi < x.toInt) (ht : (pc : Int) + dflt = (tgt : Int)) (kk : g_G Γ R nL tgt ls st ws) : g_G Γ R nL pc ls (.int x :: st) ws := by
  obtain ⟨p, l, e, s, m, args, below, meth, c, E, A, kc, ks, Q⟩ := Γ
  obtain ⟨hx, hb, hml, hown, hts, hK, hE, hA, hkc, hks⟩ := X
  intro H locs la hP hD hS hl
  exact lv_tableOut hx hb hdg h ht (kk H locs la hP hD hS hl)

theorem g_lookup (pc : Nat) (X : g_X Γ R cc own nL) {dflt : Int} {ps : Array (Int × Int)} {len : Nat} {x : Int32} (off : Int) (tgt : Nat) (hdg : decode cc pc = .ok (.lookupswitch dflt ps, len)) (hp : (ps.toList.zip (ps.toList.drop 1)).all (fun (a, next) => a.1 < next.1) = true) (ho : Op.lookupswitch.offset ps.toList dflt x.toInt = off) (ht : (pc : Int) + off = (tgt : Int)) (kk : g_G Γ R nL tgt ls st ws) : g_G Γ R nL pc ls (.int x :: st) ws := by
  obtain ⟨p, l, e, s, m, args, below, meth, c, E, A, kc, ks, Q⟩ := Γ
  obtain ⟨hx, hb, hml, hown, hts, hK, hE, hA, hkc, hks⟩ := X
  intro H locs la hP hD hS hl
  exact lv_lookup hx hb hdg hp ho ht (kk H locs la hP hD hS hl)

/-- a field that a class names by a number: class and slot -/
def g_FA (own : String) (idx ci k : Nat) : Prop := ∃ (C : String) (T : u_T) (N : Nat), vwCl[ci]? = some (C, T, N) ∧ k < N ∧ (∀ w ∈ u_ws C T N, w ∈ lw_gw) ∧ Cond.fieldLink own idx (T k).1 (T k).2.1 (T k).2.2.1 ∈ lw_gw
def g_PA (ci k : Nat) (ty : FieldType) : Prop := ∃ (C : String) (T : u_T) (N : Nat) (ty0 : Nat → FieldType), vwCl[ci]? = some (C, T, N) ∧ (∀ k, k < N → parseFieldDescriptor (T k).2.2.1 = some (ty0 k)) ∧ (∀ a, a < N → ∀ b, b < N → a ≠ b → (T a).2.1 ≠ (T b).2.1) ∧ (T k).2.2.2 = false ∧ parseFieldDescriptor (T k).2.2.1 = some ty

theorem g_get (pc : Nat) (X : g_X Γ R cc own nL) {idx ci k a : Nat} {fs : List Value} {v : Value} (fa : g_FA own idx ci k) (hdg : decode cc pc = .ok (.getfield idx, 3)) (q0 : Nat) (he : ws[q0]? = some (a, .inr (ci, fs))) (hv : fs[k]? = some v) (kk : g_G Γ R nL (pc + 3) ls (v :: st) ws) : g_G Γ R nL pc ls (.ref a :: st) ws := by
  obtain ⟨p, l, e, s, m, args, below, meth, c, E, A, kc, ks, Q⟩ := Γ
  obtain ⟨hx, hb, hml, hown, hts, hK, hE, hA, hkc, hks⟩ := X
  intro H locs la hP hD hS hl
  exact by
    obtain ⟨C, T, N, h1, h2, h3, h4⟩ := fa
    exact va_get hx hb hts h3 hown hK hP q0 he h1 k h2 (hts _ h4) (fun _ h => h) hv hdg (kk H locs la hP hD hS hl)

theorem g_put (pc : Nat) (X : g_X Γ R cc own nL) {idx ci k a : Nat} {fs : List Value} {v : Value} {ty : FieldType} (ws1 : va_W) (fa : g_FA own idx ci k) (pa : g_PA ci k ty) (hdg : decode cc pc = .ok (.putfield idx, 3)) (q0 : Nat) (he : ws[q0]? = some (a, .inr (ci, fs))) (hn : narrow ty v = v) (hf : fits ty v = true) (hl0 : k < fs.length) (h1 : ws.set q0 (a, .inr (ci, fs.set k v)) = ws1) (kk : g_G Γ R nL (pc + 3) ls st ws1) : g_G Γ R nL pc ls (v :: .ref a :: st) ws := by
  obtain ⟨p, l, e, s, m, args, below, meth, c, E, A, kc, ks, Q⟩ := Γ
  obtain ⟨hx, hb, hml, hown, hts, hK, hE, hA, hkc, hks⟩ := X
  intro H locs la hP hD hS hl
  obtain ⟨C, T, N, g1, g2, g3, g4⟩ := fa
  obtain ⟨C', T', N', ty0, k1, k2, k3, k4, k5⟩ := pa
  rw [g1] at k1
  cases k1
  subst h1
  exact va_put hx hb hts g3 ty0 k2 k3 hown hK hP hD hS q0 he g1 k g2 (hts _ g4) (fun _ h => h) k4 k5 hn hf hl0 hdg (fun H1 locs1 hP1 hD1 hS1 => kk H1 locs1 la hP1 hD1 hS1 hl)

def g_env (Γ : g_C) : g_E := Γ.2.2.2.2.2.2.2.2.2.1
def g_clI (Γ : g_C) : ClassId := (g_env Γ).2.1
def g_clZ (Γ : g_C) : ClassId := (g_env Γ).2.2.1
def g_clS (Γ : g_C) : ClassId := (g_env Γ).2.2.2.1

theorem g_iald (pc : Nat) (X : g_X Γ R cc own nL) {a n : Nat} {f : Nat → Int32} {i : Int32} {cA : ClassId} (hdg : decode cc pc = .ok (.iaload, 1)) (q0 : Nat) (he : ws[q0]? = some (a, .inl (cA, n, .inl f))) (hc : g_clI Γ = cA) (hi : vp_in i n) (kk : g_G Γ R nL (pc + 1) ls (.int (f i.toNatClampNeg) :: st) ws) : g_G Γ R nL pc ls (.int i :: .ref a :: st) ws := by
  obtain ⟨p, l, e, s, m, args, below, meth, c, E, A, kc, ks, Q⟩ := Γ
  obtain ⟨hx, hb, hml, hown, hts, hK, hE, hA, hkc, hks⟩ := X
  intro H locs la hP hD hS hl
  exact va_iald hx hb hK hP q0 0 he (by rw [← hc]; rfl) hi hdg (kk H locs la hP hD hS hl)

theorem g_zald (pc : Nat) (X : g_X Γ R cc own nL) {a n : Nat} {f : Nat → Int32} {i : Int32} {cA : ClassId} (hdg : decode cc pc = .ok (.baload, 1)) (q0 : Nat) (he : ws[q0]? = some (a, .inl (cA, n, .inl f))) (hc : g_clZ Γ = cA) (hi : vp_in i n) (kk : g_G Γ R nL (pc + 1) ls (.int (f i.toNatClampNeg) :: st) ws) : g_G Γ R nL pc ls (.int i :: .ref a :: st) ws := by
  obtain ⟨p, l, e, s, m, args, below, meth, c, E, A, kc, ks, Q⟩ := Γ
  obtain ⟨hx, hb, hml, hown, hts, hK, hE, hA, hkc, hks⟩ := X
  intro H locs la hP hD hS hl
  exact va_zald hx hb hK hP q0 1 he (by rw [← hc]; rfl) hi hdg (kk H locs la hP hD hS hl)

theorem g_iast (pc : Nat) (X : g_X Γ R cc own nL) {a n : Nat} {f : Nat → Int32} {i x : Int32} {cA : ClassId} (ws1 : va_W) (hdg : decode cc pc = .ok (.iastore, 1)) (q0 : Nat) (he : ws[q0]? = some (a, .inl (cA, n, .inl f))) (hc : g_clI Γ = cA) (hi : vp_in i n) (h1 : ws.set q0 (a, .inl (cA, n, .inl (upd f i.toNatClampNeg x))) = ws1) (kk : g_G Γ R nL (pc + 1) ls st ws1) : g_G Γ R nL pc ls (.int x :: .int i :: .ref a :: st) ws := by
  obtain ⟨p, l, e, s, m, args, below, meth, c, E, A, kc, ks, Q⟩ := Γ
  obtain ⟨hx, hb, hml, hown, hts, hK, hE, hA, hkc, hks⟩ := X
  intro H locs la hP hD hS hl
  subst h1
  exact va_iast hx hb hK hP hD hS q0 0 he (by rw [← hc]; rfl) hi hdg (fun H1 locs1 hP1 hD1 hS1 => kk H1 locs1 la hP1 hD1 hS1 hl)

theorem g_zast (pc : Nat) (X : g_X Γ R cc own nL) {a n : Nat} {f : Nat → Int32} {i x : Int32} {cA : ClassId} (ws1 : va_W) (hdg : decode cc pc = .ok (.bastore, 1)) (q0 : Nat) (he : ws[q0]? = some (a, .inl (cA, n, .inl f))) (hc : g_clZ Γ = cA) (hi : vp_in i n) (h1 : ws.set q0 (a, .inl (cA, n, .inl (upd f i.toNatClampNeg (vp_nar .boolean x)))) = ws1) (kk : g_G Γ R nL (pc + 1) ls st ws1) : g_G Γ R nL pc ls (.int x :: .int i :: .ref a :: st) ws := by
  obtain ⟨p, l, e, s, m, args, below, meth, c, E, A, kc, ks, Q⟩ := Γ
  obtain ⟨hx, hb, hml, hown, hts, hK, hE, hA, hkc, hks⟩ := X
  intro H locs la hP hD hS hl
  subst h1
  exact va_zast hx hb hK hP hD hS q0 1 he (by rw [← hc]; rfl) hi hdg (fun H1 locs1 hP1 hD1 hS1 => kk H1 locs1 la hP1 hD1 hS1 hl)

theorem g_aald (pc : Nat) (X : g_X Γ R cc own nL) {a n : Nat} {f : Nat → Option Nat} {i : Int32} {cA : ClassId} (hdg : decode cc pc = .ok (.aaload, 1)) (q0 : Nat) (he : ws[q0]? = some (a, .inl (cA, n, .inr (.inr (.inr (.inr f)))))) (hc : g_clS Γ = cA) (hi : vp_in i n) (kk : g_G Γ R nL (pc + 1) ls (va_rf (f i.toNatClampNeg) :: st) ws) : g_G Γ R nL pc ls (.int i :: .ref a :: st) ws := by
  obtain ⟨p, l, e, s, m, args, below, meth, c, E, A, kc, ks, Q⟩ := Γ
  obtain ⟨hx, hb, hml, hown, hts, hK, hE, hA, hkc, hks⟩ := X
  intro H locs la hP hD hS hl
  exact va_aldq hx hb hK hP q0 2 he (by rw [← hc]; rfl) hi hdg (kk H locs la hP hD hS hl)

theorem g_alen (pc : Nat) (X : g_X Γ R cc own nL) (hdg : decode cc pc = .ok (.arraylength, 1)) (kk : g_G Γ R nL (pc + 1) ls (.int 9 :: st) ws) : g_G Γ R nL pc ls (.ref (g_env Γ).2.2.2.2 :: st) ws := by
  obtain ⟨p, l, e, s, m, args, below, meth, c, E, A, kc, ks, Q⟩ := Γ
  obtain ⟨hx, hb, hml, hown, hts, hK, hE, hA, hkc, hks⟩ := X
  intro H locs la hP hD hS hl
  exact va_tlen hx hb hE.2.2.1 hS (v := 9) rfl hdg (kk H locs la hP hD hS hl)

theorem g_gets (pc : Nat) (X : g_X Γ R cc own nL) {idx : Nat} (hdg : decode cc pc = .ok (.getstatic idx, 3)) (hl0 : Cond.fieldLink own idx "HeatLines" "FACTORIALS" "[I" ∈ lw_gw) (kk : g_G Γ R nL (pc + 3) ls (.ref (g_env Γ).2.2.2.2 :: st) ws) : g_G Γ R nL pc ls st ws := by
  obtain ⟨p, l, e, s, m, args, below, meth, c, E, A, kc, ks, Q⟩ := Γ
  obtain ⟨hx, hb, hml, hown, hts, hK, hE, hA, hkc, hks⟩ := X
  intro H locs la hP hD hS hl
  exact va_gets hx hb hE.2.1 hS hown (hts _ hl0) (fun _ h => h) hdg (kk H locs la hP hD hS hl)
theorem g_tald (pc : Nat) (X : g_X Γ R cc own nL) {i : Int32} (hdg : decode cc pc = .ok (.iaload, 1)) (hi : vp_in i 9) (kk : g_G Γ R nL (pc + 1) ls (.int (g_fc i.toNatClampNeg) :: st) ws) : g_G Γ R nL pc ls (.int i :: .ref (g_env Γ).2.2.2.2 :: st) ws := by
  obtain ⟨p, l, e, s, m, args, below, meth, c, E, A, kc, ks, Q⟩ := Γ
  obtain ⟨hx, hb, hml, hown, hts, hK, hE, hA, hkc, hks⟩ := X
  intro H locs la hP hD hS hl
  exact va_ti hx hb hE.2.2.1 hS hi (v := .int (g_fc i.toNatClampNeg)) rfl hdg (kk H locs la hP hD hS hl)
theorem g_lcmp (pc : Nat) (X : g_X Γ R cc own nL) {x y : Int64} (hdg : decode cc pc = .ok (.lcmp, 1)) (kk : g_G Γ R nL (pc + 1) ls (.int (lg_cmp x y) :: st) ws) : g_G Γ R nL pc ls (.long y :: .long x :: st) ws := by
  obtain ⟨p, l, e, s, m, args, below, meth, c, E, A, kc, ks, Q⟩ := Γ
  obtain ⟨hx, hb, hml, hown, hts, hK, hE, hA, hkc, hks⟩ := X
  intro H locs la hP hD hS hl
  exact W.lcmp hx hb hdg (kk H locs la hP hD hS hl)

theorem gw_math : Cond.initialized "java/lang/Math" ∈ lw_gw := gw_mem 50 (by decide +kernel) (by decide +kernel)

theorem gw_g_mmax_s : Cond.static Lib.Math.max.name ∈ lw_gw := gw_mem 327 (by decide +kernel) (by decide +kernel)
theorem gw_g_mmax_c : Cond.code Lib.Math.max.name Lib.Math.max.code 2 (some .int) ∈ lw_gw := gw_mem 328 (by decide +kernel) (by decide +kernel)

theorem gw_g_mmin_s : Cond.static Lib.Math.min.name ∈ lw_gw := gw_mem 338 (by decide +kernel) (by decide +kernel)
theorem gw_g_mmin_c : Cond.code Lib.Math.min.name Lib.Math.min.code 2 (some .int) ∈ lw_gw := gw_mem 339 (by decide +kernel) (by decide +kernel)

theorem gw_g_lmax_s : Cond.static Lib.MathLoose.max_long.x ∈ lw_gw := gw_mem 612 (by decide +kernel) (by decide +kernel)
theorem gw_g_lmax_c : Cond.code Lib.MathLoose.max_long.x Lib.MathLoose.max_long.code 4 (some .long) ∈ lw_gw := gw_mem 613 (by decide +kernel) (by decide +kernel)

theorem gw_g_labs_s : Cond.static Lib.MathLoose.abs_long.x ∈ lw_gw := gw_mem 606 (by decide +kernel) (by decide +kernel)
theorem gw_g_labs_c : Cond.code Lib.MathLoose.abs_long.x Lib.MathLoose.abs_long.code 2 (some .long) ∈ lw_gw := gw_mem 607 (by decide +kernel) (by decide +kernel)

theorem g_mmax (pc : Nat) (X : g_X Γ R cc own nL) {idx : Nat} {x y : Int32} (hdg : decode cc pc = .ok (.invokestatic idx, 3)) (w1 : Cond.methodLink own idx Lib.Math.max.name ∈ lw_gw) (hf : 1 ≤ R.frames) (ho : (st.map fun v => v.category).sum + 13 ≤ R.locals) (kk : g_G Γ R nL (pc + 3) ls (.int (if x < y then y else x) :: st) ws) : g_G Γ R nL pc ls (.int y :: .int x :: st) ws := by
  obtain ⟨p, l, e, s, m, args, below, meth, c, E, A, kc, ks, Q⟩ := Γ
  obtain ⟨hx, hb, hml, hown, hts, hK, hE, hA, hkc, hks⟩ := X
  intro H locs la hP hD hS hl
  exact va_mmax hx hb (hml.trans hl.1.symm) hown (hts _ w1) (hts _ gw_g_mmax_s) (hts _ gw_math) (hts _ gw_g_mmax_c) hf ho hkc hks hdg (kk H locs la hP hD hS hl)

theorem g_mmin (pc : Nat) (X : g_X Γ R cc own nL) {idx : Nat} {x y : Int32} (hdg : decode cc pc = .ok (.invokestatic idx, 3)) (w1 : Cond.methodLink own idx Lib.Math.min.name ∈ lw_gw) (hf : 1 ≤ R.frames) (ho : (st.map fun v => v.category).sum + 13 ≤ R.locals) (kk : g_G Γ R nL (pc + 3) ls (.int (if y < x then y else x) :: st) ws) : g_G Γ R nL pc ls (.int y :: .int x :: st) ws := by
  obtain ⟨p, l, e, s, m, args, below, meth, c, E, A, kc, ks, Q⟩ := Γ
  obtain ⟨hx, hb, hml, hown, hts, hK, hE, hA, hkc, hks⟩ := X
  intro H locs la hP hD hS hl
  exact va_mmin hx hb (hml.trans hl.1.symm) hown (hts _ w1) (hts _ gw_g_mmin_s) (hts _ gw_math) (hts _ gw_g_mmin_c) hf ho hkc hks hdg (kk H locs la hP hD hS hl)

theorem g_lmax (pc : Nat) (X : g_X Γ R cc own nL) {idx : Nat} {x y : Int64} (hdg : decode cc pc = .ok (.invokestatic idx, 3)) (w1 : Cond.methodLink own idx Lib.MathLoose.max_long.x ∈ lw_gw) (hf : 1 ≤ R.frames) (ho : (st.map fun v => v.category).sum + 15 ≤ R.locals) (kk : g_G Γ R nL (pc + 3) ls (.long (if y < x then x else y) :: st) ws) : g_G Γ R nL pc ls (.long y :: .long x :: st) ws := by
  obtain ⟨p, l, e, s, m, args, below, meth, c, E, A, kc, ks, Q⟩ := Γ
  obtain ⟨hx, hb, hml, hown, hts, hK, hE, hA, hkc, hks⟩ := X
  intro H locs la hP hD hS hl
  exact va_mmax_long hx hb (hml.trans hl.1.symm) hown (hts _ w1) (hts _ gw_g_lmax_s) (hts _ gw_math) (hts _ gw_g_lmax_c) hf ho hkc hks hdg (kk H locs la hP hD hS hl)

theorem g_labs (pc : Nat) (X : g_X Γ R cc own nL) {idx : Nat} {x : Int64} (hdg : decode cc pc = .ok (.invokestatic idx, 3)) (w1 : Cond.methodLink own idx Lib.MathLoose.abs_long.x ∈ lw_gw) (hf : 1 ≤ R.frames) (ho : (st.map fun v => v.category).sum + 13 ≤ R.locals) (kk : g_G Γ R nL (pc + 3) ls (.long (if 0 < x then x else -x) :: st) ws) : g_G Γ R nL pc ls (.long x :: st) ws := by
  obtain ⟨p, l, e, s, m, args, below, meth, c, E, A, kc, ks, Q⟩ := Γ
  obtain ⟨hx, hb, hml, hown, hts, hK, hE, hA, hkc, hks⟩ := X
  intro H locs la hP hD hS hl
  exact va_mabs_long hx hb (hml.trans hl.1.symm) hown (hts _ w1) (hts _ gw_g_labs_s) (hts _ gw_math) (hts _ gw_g_labs_c) hf ho hkc hks hdg (kk H locs la hP hD hS hl)

end Rows
