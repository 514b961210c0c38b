/-! constructors: a world that grows by the cells that they make -/
theorem v_nodup : ∀ (l : List Nat), l.Nodup → va_nd l = true
  | [], _ => rfl
  | a :: l, h => by
    rw [List.nodup_cons] at h
    simp only [va_nd, Bool.and_eq_true, decide_eq_true_eq]
    exact ⟨h.1, v_nodup l h.2⟩
theorem v_last {x : Nat × va_E} (ws : va_W) : [ws.length].map (fun i => (ws ++ [x])[i]?) = [x].map some := by simp
theorem v_front {x : Nat × va_E} (ws : va_W) : (List.range ws.length).map (fun i => (ws ++ [x])[i]?) = ws.map some := by
  apply List.ext_getElem?
  intro i
  by_cases h : i < ws.length
  · rw [List.getElem?_map, List.getElem?_range h, List.getElem?_map, Option.map_some, List.getElem?_append_left h, List.getElem?_eq_getElem h]
    rfl
  · rw [List.getElem?_eq_none (by simpa using Nat.le_of_not_lt h), List.getElem?_eq_none (by simpa using Nat.le_of_not_lt h)]
abbrev C3 : Type := ClassId × ClassId × ClassId
def tyI (T3 : C3) : List (ClassId × FieldType) := [(T3.1, .int), (T3.2.1, .boolean), (T3.2.2, .object N_ST)]
def XI (D : va_G) (T3 : C3) (A : Nat → Prop) (p : Program) (s : State) (m : MethodId) (args : Array Value) (c : Code) (cc : ByteArray) (nL : Nat) (own : String) : Prop :=
  p.tables.exec = Jvm.exec ∧ c.code = cc ∧ c.maxLocals = nL ∧ s.vm.findClass own = some m.cls ∧ (∀ w ∈ lw_gt, w.before args s = true) ∧ va_K D z_cl (tyI T3) s ∧ (∀ q, s.heap.size ≤ q → A q) ∧ va_AO N_ST s
def VI (D : va_G) (A : Nat → Prop) (p : Program) (l : Launch) (e : Env) (R : Room) (s : State) (m : MethodId) (args : Array Value) (below : List Frame) (meth : Method) (c : Code) (kc ks : Nat) (Q : State → Prop) (nL : Nat) (pc : Nat) (lv : List (Nat × Value)) (st : List Value) (ws : va_W) : Prop :=
  ∀ (H : Heap) (locs : List Loc) (ls : Array Slot), va_P D z_cl ws H → va_D A ws → va_S A s.heap H locs → lv_has ls nL lv → W p l e R s m args below meth c H locs kc ks Q (F0 m pc ls st)
def CtrI (D : va_G) (T3 : C3) (l : Launch) (y : MethodName) (bytes : ByteArray) (nL ci : Nat) (fs0 : List Value) (mc ms d L : Nat) (blk : (Nat → Nat) → va_W) : Prop := ∀ (h0 sz : Nat),
  Met l y (Cond.code y bytes nL none :: lw_gt) { frames := d, cells := mc, slots := ms, locals := L } (va_Pc [.ref h0] (fun U => U.heap.size = sz ∧ va_P D z_cl [(h0, .inr (ci, fs0))] U.heap ∧ va_K D z_cl (tyI T3) U ∧ va_AO N_ST U ∧ va_D (fun _ => True) [(h0, .inr (ci, fs0))]))
    (va_Qv (fun u : Nat → Nat => u 0 = h0) (fun u t => va_P D z_cl (blk u) t.heap ∧ va_D (va_A [(h0, .inr (ci, fs0))] sz) (blk u)) (va_A [(h0, .inr (ci, fs0))] sz)) mc ms (va_A [(h0, .inr (ci, fs0))] sz)
theorem CtrI.of {D : va_G} {T3 : C3} {l : Launch} {y : MethodName} {bytes : ByteArray} {nL ci : Nat} {fs0 : List Value} {mc ms d L : Nat} {blk : (Nat → Nat) → va_W} (hy : plainName y.cls = true) (hn : y.name = "<init>") (hnL : 1 ≤ nL)
    (body : ∀ (h0 : Nat) (p : Program) (e : Env) (s : State) (m : MethodId) (args : Array Value) (below : List Frame) (meth : Method) (c : Code) (A : Nat → Prop), XI D T3 A p s m args c bytes nL y.cls → meth.sig.returnType = none → meth.locks = false → meth.name = "<init>" →
      VI D A p l e { frames := d, cells := mc, slots := ms, locals := L } s m args below meth c 0 0 (MQ below (va_Qv (fun u : Nat → Nat => u 0 = h0) (fun u t => va_P D z_cl (blk u) t.heap ∧ va_D A (blk u)) A) args s mc ms A) nL 0 [(0, .ref h0)] [] [(h0, .inr (ci, fs0))]) : CtrI D T3 l y bytes nL ci fs0 mc ms d L blk := by
  intro h0 sz
  refine Met.ofW (cc := bytes) (maxL := nL) (ret := none) hy rfl ?_
  intro p e s m args below meth c s₁ B hml hv
  obtain ⟨rfl, hsz, hP, hK, hO, hD0⟩ := hv
  have hts := atoms_spec (ws := Cond.code y bytes nL none :: lw_gt) B.pre
  have hin : meth.name = "<init>" := (name_of_methodNamed B.named B.method).1.trans hn
  subst hsz
  have hD := hD0.self (sz := s.heap.size)
  have k := body h0 p e s m [Value.ref h0].toArray below meth c (va_A [(h0, .inr (ci, fs0))] s.heap.size) ⟨B.exec, B.bytes, hml, findClass_of_methodNamed B.named, fun w hw => hts w (List.mem_cons_of_mem _ hw), hK, fun q h => Or.inr h, hO⟩ B.returns B.notSynchronized hin s.heap [] _ hP hD va_S.rf (lv_entry [.ref h0] (n := nL) hnL)
  rw [lg_entry_eq]
  exact k
theorem v_ext {cA : ClassId} {n : Nat} {f g : Nat → Int32} (h : ∀ j, j < n → f j = g j) : vp_cell cA (n, .inl f) = vp_cell cA (n, .inl g) := by
  rw [vp_cell_i, vp_cell_i]
  unfold arrV
  congr 2
  funext j
  exact congrArg Value.int (h j.1 j.2)
theorem v_arP {U : State} {args : Array Value} {ty : FieldType} (h : (Cond.arrayClass ty).before args U = true) (ht : ∀ C, ty ≠ .object C) : ∃ cA : ClassId, ArrOfT U cA ty ∧ va_RA U cA ty := by
  obtain ⟨cA, kA, comp, h1, h2, h3⟩ := Cond.arrayClass_spec h
  refine ⟨cA, fun n z => ⟨(fun k q => by cases q), kA, h2, comp, h3⟩, ?_⟩
  cases ty with
  | object C => exact absurd rfl (ht C)
  | _ => exact h1
theorem v_arO {U : State} {args : Array Value} {C : String} (h : (Cond.arrayOver (.object C)).before args U = true) : ∃ cA : ClassId, ArrOfT U cA (.object C) ∧ va_RA U cA (.object C) := by
  obtain ⟨comp, cA, k, h1, h2, h3, h4, h5⟩ := Cond.arrayOver_spec h
  exact ⟨cA, fun n z => ⟨(fun k q => by cases q), k, h3, comp, h4⟩, k, comp, h3, h4, h1, h5⟩
section VROWS
variable {D : va_G} {T3 : C3} {A : Nat → Prop} {p : Program} {l : Launch} {e : Env} {R : Room} {s : State} {m : MethodId} {args : Array Value} {below : List Frame} {meth : Method} {c : Code} {kc ks : Nat} {Q : State → Prop} {nL : Nat} {cc : ByteArray} {own : String} {pc : Nat} {lv lv' : List (Nat × Value)} {st : List Value} {ws : va_W}
theorem v_iconst (X : XI D T3 A p s m args c cc nL own) {n : Int} {v : Int32} (hd : decode cc pc = .ok (.iconst n, 1)) (hv : Int32.ofInt n = v) (k : VI D A p l e R s m args below meth c kc ks Q nL (pc + 1) lv (.int v :: st) ws) : VI D A p l e R s m args below meth c kc ks Q nL pc lv st ws :=
  fun H locs ls hP hD hS hl => lv_iconst X.1 X.2.1 hd hv (k H locs ls hP hD hS hl)
theorem v_bipush (X : XI D T3 A p s m args c cc nL own) {n : Int} {v : Int32} (hd : decode cc pc = .ok (.bipush n, 2)) (hv : (Int8.ofInt n).toInt32 = v) (k : VI D A p l e R s m args below meth c kc ks Q nL (pc + 2) lv (.int v :: st) ws) : VI D A p l e R s m args below meth c kc ks Q nL pc lv st ws :=
  fun H locs ls hP hD hS hl => lv_bipush X.1 X.2.1 hd hv (k H locs ls hP hD hS hl)
theorem v_sipush (X : XI D T3 A p s m args c cc nL own) {n : Int} {v : Int32} (hd : decode cc pc = .ok (.sipush n, 3)) (hv : (Int16.ofInt n).toInt32 = v) (k : VI D A p l e R s m args below meth c kc ks Q nL (pc + 3) lv (.int v :: st) ws) : VI D A p l e R s m args below meth c kc ks Q nL pc lv st ws :=
  fun H locs ls hP hD hS hl => lv_sipush X.1 X.2.1 hd hv (k H locs ls hP hD hS hl)
theorem v_iload_n (X : XI D T3 A p s m args c cc nL own) {k9 : Fin 4} {x : Int32} (hd : decode cc pc = .ok (.iload_n k9, 1)) (j : Nat) (hj : lv[j]? = some ((k9 : Nat), .int x)) (k : VI D A p l e R s m args below meth c kc ks Q nL (pc + 1) lv (.int x :: st) ws) : VI D A p l e R s m args below meth c kc ks Q nL pc lv st ws :=
  fun H locs ls hP hD hS hl => lv_iload_n X.1 X.2.1 hd rfl (lv_at hl j hj) (k H locs ls hP hD hS hl)
theorem v_aload_n (X : XI D T3 A p s m args c cc nL own) {k9 : Fin 4} {x : Nat} (hd : decode cc pc = .ok (.aload_n k9, 1)) (j : Nat) (hj : lv[j]? = some ((k9 : Nat), .ref x)) (k : VI D A p l e R s m args below meth c kc ks Q nL (pc + 1) lv (.ref x :: st) ws) : VI D A p l e R s m args below meth c kc ks Q nL pc lv st ws :=
  fun H locs ls hP hD hS hl => lv_aload_n X.1 X.2.1 hd rfl (lv_at hl j hj) (k H locs ls hP hD hS hl)
theorem v_dup (X : XI D T3 A p s m args c cc nL own) {v : Value} (hd : decode cc pc = .ok (.dup, 1)) (hv : v.category = 1) (k : VI D A p l e R s m args below meth c kc ks Q nL (pc + 1) lv (v :: v :: st) ws) : VI D A p l e R s m args below meth c kc ks Q nL pc lv (v :: st) ws :=
  fun H locs ls hP hD hS hl => lv_dup X.1 X.2.1 hd hv (k H locs ls hP hD hS hl)
theorem v_istore_n (X : XI D T3 A p s m args c cc nL own) {i : Nat} {k9 : Fin 4} {x : Int32} (hd : decode cc pc = .ok (.istore_n k9, 1)) (hi : (k9 : Nat) = i) (hn : i < nL) (hl9 : (i, Value.int x) :: lv.filter (fun q => !(q.1 == i) && !(q.1 + 1 == i && q.2.category == 2)) = lv') (k : VI D A p l e R s m args below meth c kc ks Q nL (pc + 1) lv' st ws) : VI D A p l e R s m args below meth c kc ks Q nL pc lv (.int x :: st) ws :=
  fun H locs ls hP hD hS hl => lv_istore_n X.1 X.2.1 hd hi hl hn hl9 (fun ls' hl' => k H locs ls' hP hD hS hl')
theorem v_astore_n (X : XI D T3 A p s m args c cc nL own) {i : Nat} {k9 : Fin 4} {x : Nat} (hd : decode cc pc = .ok (.astore_n k9, 1)) (hi : (k9 : Nat) = i) (hn : i < nL) (hl9 : (i, Value.ref x) :: lv.filter (fun q => !(q.1 == i) && !(q.1 + 1 == i && q.2.category == 2)) = lv') (k : VI D A p l e R s m args below meth c kc ks Q nL (pc + 1) lv' st ws) : VI D A p l e R s m args below meth c kc ks Q nL pc lv (.ref x :: st) ws :=
  fun H locs ls hP hD hS hl => lv_astore_n X.1 X.2.1 hd hi hl hn hl9 (fun ls' hl' => k H locs ls' hP hD hS hl')
theorem v_iinc (X : XI D T3 A p s m args c cc nL own) {i j : Nat} {n : Int} {x v : Int32} (hd : decode cc pc = .ok (.iinc i n, 3)) (hj : lv[j]? = some (i, .int x)) (hv : x + Int32.ofInt n = v) (hn : i < nL) (hl9 : (i, Value.int v) :: lv.filter (fun q => !(q.1 == i) && !(q.1 + 1 == i && q.2.category == 2)) = lv') (k : VI D A p l e R s m args below meth c kc ks Q nL (pc + 3) lv' st ws) : VI D A p l e R s m args below meth c kc ks Q nL pc lv st ws :=
  fun H locs ls hP hD hS hl => lv_iinc X.1 X.2.1 hd hl hj hv hn hl9 (fun ls' hl' => k H locs ls' hP hD hS hl')
theorem v_goto (X : XI D T3 A p s m args c cc nL own) {off : Int} (hd : decode cc pc = .ok (.goto off, 3)) (tgt : Nat) (ht : (pc : Int) + off = (tgt : Int)) (k : VI D A p l e R s m args below meth c kc ks Q nL tgt lv st ws) : VI D A p l e R s m args below meth c kc ks Q nL pc lv st ws :=
  fun H locs ls hP hD hS hl => lv_goto X.1 X.2.1 hd ht (k H locs ls hP hD hS hl)
theorem v_ic_ge (X : XI D T3 A p s m args c cc nL own) {x y : Int32} {off : Int} (hd : decode cc pc = .ok (.if_icmp .ge off, 3)) (tgt : Nat) (ht : (pc : Int) + off = (tgt : Int)) (kt : y ≤ x → VI D A p l e R s m args below meth c kc ks Q nL tgt lv st ws) (kf : ¬ y ≤ x → VI D A p l e R s m args below meth c kc ks Q nL (pc + 3) lv st ws) : VI D A p l e R s m args below meth c kc ks Q nL pc lv (.int y :: .int x :: st) ws :=
  fun H locs ls hP hD hS hl => lv_icmp_ge X.1 X.2.1 hd ht (fun q => kt q H locs ls hP hD hS hl) (fun q => kf q H locs ls hP hD hS hl)
theorem v_sub (is : List Nat) (hl9 : lv_pick lv is = lv') (k : VI D A p l e R s m args below meth c kc ks Q nL pc lv' st ws) : VI D A p l e R s m args below meth c kc ks Q nL pc lv st ws :=
  fun H locs ls hP hD hS hl => k H locs ls hP hD hS (lv_sub hl is hl9)
theorem v_obj (X : XI D T3 A p s m args c cc nL own) {idx a : Nat} (hd : decode cc pc = .ok (.invokespecial idx, 3)) (hlk : Cond.methodLink own idx Lib.objectInit ∈ lw_gt) (hin : Cond.instanceMethod Lib.objectInit ∈ lw_gt) (hcd : Cond.code Lib.objectInit ⟨#[0xb1]⟩ 1 none ∈ lw_gt) (hR : 1 ≤ R.frames ∧ (st.map fun v => v.category).sum + 12 ≤ R.locals) (k : VI D A p l e R s m args below meth c kc ks Q nL (pc + 3) lv st ws) : VI D A p l e R s m args below meth c kc ks Q nL pc lv (.ref a :: st) ws :=
  fun H locs ls hP hD hS hl => W.objInit X.1 X.2.1 X.2.2.2.1 (X.2.2.2.2.1 _ hlk) (X.2.2.2.2.1 _ hin) (X.2.2.2.2.1 _ hcd) rfl (by rw [X.2.2.1]; exact hl.1) rfl hd hR.1 (by show 2 * 0 + _ + 12 ≤ _; have := hR.2; omega) (W.eq (g2 := F0 m (pc + 3) ls st) rfl (k H locs ls hP hD hS hl))
theorem v_newI (X : XI D T3 A p s m args c cc nL own) {n : Int32} {N : Nat} (hd : decode cc pc = .ok (.newarray .int, 2)) (hw : Cond.arrayClass .int ∈ lw_gt) (hn : ¬ n < 0) (hN : n.toNatClampNeg = N) (hb : N * 4 ≤ 536870912) (hR : kc + 1 ≤ R.cells ∧ ks + N ≤ R.slots) {ws1 : Nat → va_W} (h1 : ∀ q, ws ++ [(q, .inl (T3.1, N, .inl (fun _ => 0)))] = ws1 q) (k : ∀ q, VI D A p l e R s m args below meth c (kc + 1) (ks + N) Q nL (pc + 2) lv (.ref q :: st) (ws1 q)) : VI D A p l e R s m args below meth c kc ks Q nL pc lv (.int n :: st) ws :=
  fun H locs ls hP hD hS hl => va_newa (atype := .int) (ty := .int) (a0 := (N, .inl (fun _ => 0))) X.1 X.2.1 (X.2.2.2.2.1 _ hw) rfl X.2.2.2.2.2.1 hP hD hS X.2.2.2.2.2.2.1 (fun _ => rfl) hn hN hb hR.1 hR.2 hd (fun q cA H1 hK1 hP1 hD1 hS1 => by
    have e : cA = T3.1 := by
      have e1 : s.vm.findClass _ = some cA := (hK1.2 3 (cA, .int) rfl).2
      have e2 : s.vm.findClass _ = some T3.1 := (X.2.2.2.2.2.1.2 0 (T3.1, .int) rfl).2
      exact Option.some.inj (e1.symm.trans e2)
    rw [e, h1 q] at hP1 hD1
    exact k q H1 locs ls hP1 hD1 hS1 hl)
theorem v_newZ (X : XI D T3 A p s m args c cc nL own) {n : Int32} {N : Nat} (hd : decode cc pc = .ok (.newarray .boolean, 2)) (hw : Cond.arrayClass .boolean ∈ lw_gt) (hn : ¬ n < 0) (hN : n.toNatClampNeg = N) (hb : N * 1 ≤ 536870912) (hR : kc + 1 ≤ R.cells ∧ ks + N ≤ R.slots) {ws1 : Nat → va_W} (h1 : ∀ q, ws ++ [(q, .inl (T3.2.1, N, .inl (fun _ => 0)))] = ws1 q) (k : ∀ q, VI D A p l e R s m args below meth c (kc + 1) (ks + N) Q nL (pc + 2) lv (.ref q :: st) (ws1 q)) : VI D A p l e R s m args below meth c kc ks Q nL pc lv (.int n :: st) ws :=
  fun H locs ls hP hD hS hl => va_newa (atype := .boolean) (ty := .boolean) (a0 := (N, .inl (fun _ => 0))) X.1 X.2.1 (X.2.2.2.2.1 _ hw) rfl X.2.2.2.2.2.1 hP hD hS X.2.2.2.2.2.2.1 (fun _ => rfl) hn hN hb hR.1 hR.2 hd (fun q cA H1 hK1 hP1 hD1 hS1 => by
    have e : cA = T3.2.1 := by
      have e1 : s.vm.findClass _ = some cA := (hK1.2 3 (cA, .boolean) rfl).2
      have e2 : s.vm.findClass _ = some T3.2.1 := (X.2.2.2.2.2.1.2 1 (T3.2.1, .boolean) rfl).2
      exact Option.some.inj (e1.symm.trans e2)
    rw [e, h1 q] at hP1 hD1
    exact k q H1 locs ls hP1 hD1 hS1 hl)
theorem v_newQ (X : XI D T3 A p s m args c cc nL own) {n : Int32} {N idx : Nat} (hd : decode cc pc = .ok (.anewarray idx, 3)) (hlk : Cond.classLink own idx N_ST ∈ lw_gt) (hn : ¬ n < 0) (hN : n.toNatClampNeg = N) (hb : N * 4 ≤ 536870912) (hR : kc + 1 ≤ R.cells ∧ ks + N ≤ R.slots) {ws1 : Nat → va_W} (h1 : ∀ q, ws ++ [(q, .inl (T3.2.2, N, .inr (.inr (.inr (.inr (fun _ => none))))))] = ws1 q) (k : ∀ q, VI D A p l e R s m args below meth c (kc + 1) (ks + N) Q nL (pc + 3) lv (.ref q :: st) (ws1 q)) : VI D A p l e R s m args below meth c kc ks Q nL pc lv (.int n :: st) ws :=
  fun H locs ls hP hD hS hl => va_newq X.1 X.2.1 X.2.2.2.1 (X.2.2.2.2.1 _ hlk) X.2.2.2.2.2.2.2 X.2.2.2.2.2.1 hP hD hS X.2.2.2.2.2.2.1 hn hN hb hR.1 hR.2 hd (fun q cA H1 hK1 hP1 hD1 hS1 => by
    have e : cA = T3.2.2 := by
      obtain ⟨_, _, -, -, -, e1⟩ := (hK1.2 3 (cA, .object N_ST) rfl).2
      obtain ⟨_, _, -, -, -, e2⟩ := (X.2.2.2.2.2.1.2 2 (T3.2.2, .object N_ST) rfl).2
      exact Option.some.inj (e1.symm.trans e2)
    rw [e, h1 q] at hP1 hD1
    exact k q H1 locs ls hP1 hD1 hS1 hl)
theorem v_new (X : XI D T3 A p s m args c cc nL own) {C : String} {T : u_T} {N ci idx : Nat} {ty0 : Nat → FieldType} {fs : List Value} (hd : decode cc pc = .ok (.new idx, 3)) (hc : z_cl[ci]? = some (C, T, N)) (hin : ∀ w ∈ u_ws C T N, w ∈ lw_gt) (hty : ∀ k, k < N → parseFieldDescriptor (T k).2.2.1 = some (ty0 k)) (hlk : Cond.classLink own idx C ∈ lw_gt) (hi : Cond.instantiable C N ∈ lw_gt) (hini : Cond.initialized C ∈ lw_gt) (hfs : ∀ j, j < N → defaultValue (ty0 j) = vp_V fs j) (hR : kc + 1 ≤ R.cells ∧ ks + N ≤ R.slots) (k : ∀ q, VI D A p l e R s m args below meth c (kc + 1) (ks + N) Q nL (pc + 3) lv (.ref q :: st) (ws ++ [(q, .inr (ci, fs))])) : VI D A p l e R s m args below meth c kc ks Q nL pc lv st ws :=
  fun H locs ls hP hD hS hl => va_new X.1 X.2.1 X.2.2.2.2.1 hin ty0 hty X.2.2.2.1 (X.2.2.2.2.1 _ hlk) (X.2.2.2.2.1 _ hi) (X.2.2.2.2.1 _ hini) X.2.2.2.2.2.1 hP hD hS X.2.2.2.2.2.2.1 hc hfs hR.1 hR.2 hd (fun q H1 hP1 hD1 hS1 => k q H1 locs ls hP1 hD1 hS1 hl)
theorem v_get (X : XI D T3 A p s m args c cc nL own) {a ci k9 idx N : Nat} {C : String} {T : u_T} {v : Value} {fs : List Value} (hd : decode cc pc = .ok (.getfield idx, 3)) (hc : z_cl[ci]? = some (C, T, N)) (hkN : k9 < N) (hin : ∀ w ∈ u_ws C T N, w ∈ lw_gt) (hlk : Cond.fieldLink own idx C (T k9).2.1 (T k9).2.2.1 ∈ lw_gt) (hT : (T k9).1 = C) (hv : fs[k9]? = some v) (k : VI D A p l e R s m args below meth c kc ks Q nL (pc + 3) lv (v :: st) ((a, .inr (ci, fs)) :: ws)) : VI D A p l e R s m args below meth c kc ks Q nL pc lv (.ref a :: st) ((a, .inr (ci, fs)) :: ws) :=
  fun H locs ls hP hD hS hl => va_get (ref := C) (C := C) (T := T) (N := N) X.1 X.2.1 X.2.2.2.2.1 hin X.2.2.2.1 X.2.2.2.2.2.1 hP 0 rfl hc k9 hkN (X.2.2.2.2.1 _ hlk) (by rw [hT]; exact fun _ h9 => h9) hv hd (k H locs ls hP hD hS hl)
theorem v_put (X : XI D T3 A p s m args c cc nL own) {a ci k9 idx N : Nat} {C : String} {T : u_T} {v : Value} {fs : List Value} {ty0 : Nat → FieldType} (hd : decode cc pc = .ok (.putfield idx, 3)) (hc : z_cl[ci]? = some (C, T, N)) (hkN : k9 < N) (hin : ∀ w ∈ u_ws C T N, w ∈ lw_gt) (hlk : Cond.fieldLink own idx C (T k9).2.1 (T k9).2.2.1 ∈ lw_gt) (hT : (T k9).1 = C) (hty : ∀ k, k < N → parseFieldDescriptor (T k).2.2.1 = some (ty0 k)) (hnm : ∀ a, a < N → ∀ b, b < N → a ≠ b → (T a).2.1 ≠ (T b).2.1) (hfin : (T k9).2.2.2 = false) (hn : narrow (ty0 k9) v = v) (hfit : fits (ty0 k9) v = true) (hl9 : k9 < fs.length) {ws1 : va_W} (h1 : (a, .inr (ci, fs.set k9 v)) :: ws = ws1) (k : VI D A p l e R s m args below meth c kc ks Q nL (pc + 3) lv st ws1) : VI D A p l e R s m args below meth c kc ks Q nL pc lv (v :: .ref a :: st) ((a, .inr (ci, fs)) :: ws) :=
  fun H locs ls hP hD hS hl => va_put (ref := C) (C := C) (T := T) (N := N) X.1 X.2.1 X.2.2.2.2.1 hin ty0 hty hnm X.2.2.2.1 X.2.2.2.2.2.1 hP hD hS 0 rfl hc k9 hkN (X.2.2.2.2.1 _ hlk) (by rw [hT]; exact fun _ h9 => h9) hfin (hty k9 hkN) hn hfit hl9 hd (fun H1 locs1 hP1 hD1 hS1 => k H1 locs1 ls (h1 ▸ hP1) (h1 ▸ hD1) hS1 hl)
theorem v_putF (X : XI D T3 A p s m args c cc nL own) (hi9 : meth.name = "<init>") {a ci k9 idx N : Nat} {T : u_T} {v : Value} {fs : List Value} {ty0 : Nat → FieldType} (hd : decode cc pc = .ok (.putfield idx, 3)) (hc : z_cl[ci]? = some (own, T, N)) (hkN : k9 < N) (hin : ∀ w ∈ u_ws own T N, w ∈ lw_gt) (hlk : Cond.fieldLink own idx own (T k9).2.1 (T k9).2.2.1 ∈ lw_gt) (hT : (T k9).1 = own) (hty : ∀ k, k < N → parseFieldDescriptor (T k).2.2.1 = some (ty0 k)) (hnm : ∀ a, a < N → ∀ b, b < N → a ≠ b → (T a).2.1 ≠ (T b).2.1) (hfin : (T k9).2.2.2 = true) (hn : narrow (ty0 k9) v = v) (hfit : fits (ty0 k9) v = true) (hl9 : k9 < fs.length) {ws1 : va_W} (h1 : (a, .inr (ci, fs.set k9 v)) :: ws = ws1) (k : VI D A p l e R s m args below meth c kc ks Q nL (pc + 3) lv st ws1) : VI D A p l e R s m args below meth c kc ks Q nL pc lv (v :: .ref a :: st) ((a, .inr (ci, fs)) :: ws) :=
  fun H locs ls hP hD hS hl => va_putF (ref := own) (C := own) (T := T) (N := N) X.1 X.2.1 X.2.2.2.2.1 hin ty0 hty hnm X.2.2.2.1 X.2.2.2.2.2.1 hP hD hS 0 rfl hc k9 hkN (X.2.2.2.2.1 _ hlk) (by rw [hT]; exact fun _ h9 => h9) hfin hi9 hT (hty k9 hkN) hn hfit hl9 hd (fun H1 locs1 hP1 hD1 hS1 => k H1 locs1 ls (h1 ▸ hP1) (h1 ▸ hD1) hS1 hl)
theorem v_iast (X : XI D T3 A p s m args c cc nL own) {a n i9 : Nat} {i x : Int32} {f : Nat → Int32} (hd : decode cc pc = .ok (.iastore, 1)) (j : Nat) (hj : ws[j]? = some (a, .inl (T3.1, n, .inl f))) (hi : i.toNatClampNeg = i9) (h0 : ¬ i < 0) (hn : i9 < n) {ws1 : va_W} (h1 : ws.set j (a, .inl (T3.1, n, .inl (upd f i9 x))) = ws1) (k : VI D A p l e R s m args below meth c kc ks Q nL (pc + 1) lv st ws1) : VI D A p l e R s m args below meth c kc ks Q nL pc lv (.int x :: .int i :: .ref a :: st) ws :=
  fun H locs ls hP hD hS hl => va_iast X.1 X.2.1 X.2.2.2.2.2.1 hP hD hS j 0 hj rfl (fun q => q.elim h0 (fun q => by omega)) hd (fun H1 locs1 hP1 hD1 hS1 => by
    rw [hi, h1] at hP1 hD1
    exact k H1 locs1 ls hP1 hD1 hS1 hl)
theorem v_astq (X : XI D T3 A p s m args c cc nL own) {a n i9 v : Nat} {i : Int32} {f : Nat → Option Nat} {vs : List Value} (hd : decode cc pc = .ok (.aastore, 1)) (j qk : Nat) (hj : ws[j]? = some (a, .inl (T3.2.2, n, .inr (.inr (.inr (.inr f)))))) (hv : ws[qk]? = some (v, .inr (2, vs))) (hi : i.toNatClampNeg = i9) (h0 : ¬ i < 0) (hn : i9 < n) {ws1 : va_W} (h1 : ws.set j (a, .inl (T3.2.2, n, .inr (.inr (.inr (.inr (va_up f i9 (some v))))))) = ws1) (k : VI D A p l e R s m args below meth c kc ks Q nL (pc + 1) lv st ws1) : VI D A p l e R s m args below meth c kc ks Q nL pc lv (.ref v :: .int i :: .ref a :: st) ws :=
  fun H locs ls hP hD hS hl => va_astq (r := (N_ST, T_ST, 13)) X.1 X.2.1 X.2.2.2.2.2.1 hP hD hS j 2 qk 2 hj rfl hv rfl (fun q => q.elim h0 (fun q => by omega)) hd (fun H1 locs1 hP1 hD1 hS1 => by
    rw [hi, h1] at hP1 hD1
    exact k H1 locs1 ls hP1 hD1 hS1 hl)
theorem v_call (X : XI D T3 A p s m args c cc nL own) {y : MethodName} {bytes : ByteArray} {maxL d L idx mc ms ci q : Nat} {fs0 : List Value} {blk : (Nat → Nat) → va_W} (M : CtrI D T3 l y bytes maxL ci fs0 mc ms d L blk) (hc : cOK y bytes maxL none 0) (hn : y.name = "<init>") (hd : decode cc pc = .ok (.invokespecial idx, 3)) (hlk : Cond.methodLink own idx y ∈ lw_gt) (hin : Cond.instanceMethod y ∈ lw_gt) (hR : d + 1 ≤ R.frames ∧ 8 + (maxL + 11) + L ≤ R.locals) (hk : kc + mc ≤ R.cells ∧ ks + ms ≤ R.slots) (hw : (st.map fun v => v.category).sum ≤ 8) {ws1 : (Nat → Nat) → va_W} (h1 : ∀ u, ws ++ blk u = ws1 u) (k : ∀ u : Nat → Nat, u 0 = q → VI D A p l e R s m args below meth c (kc + mc) (ks + ms) Q nL (pc + 3) lv st (ws1 u)) : VI D A p l e R s m args below meth c kc ks Q nL pc lv (.ref q :: st) (ws ++ [(q, .inr (ci, fs0))]) := by
  intro H locs ls hP hD hS hl
  have hPc : va_P D z_cl [(q, .inr (ci, fs0))] H := hP.sub [ws.length] (by simp)
  have hDc : va_D A [(q, .inr (ci, fs0))] := hD.sub [ws.length] (by simp [va_nd]) (v_last ws)
  have hFc := va_free (wc := [(q, .inr (ci, fs0))]) hD hS X.2.2.2.2.2.2.1 [ws.length] (v_last ws)
  refine va_callv (va_runI (Ts := lw_gt) (As := []) (rest := st) ⟨X.1, X.2.1, X.2.2.1, X.2.2.2.1, X.2.2.2.2.1⟩ (M q H.size) ⟨⟨rfl, rfl, hR.1, hR.2, pay_in X.2.2.2.2.1 (lw_goodIn hc.1), List.mem_cons_self, X.2.2.2.2.1 _ hc.1, X.2.2.2.2.1 _ hc.2.1, hc.2.2.1, hc.len, X.2.2.2.2.1 _ hlk⟩, hn, X.2.2.2.2.1 _ hin⟩ ⟨fun a U g mk z => by obtain ⟨z0, z1, zP, zK, zO, zD⟩ := z; exact ⟨z0, z1, zP, va_K.moved (u := U) (U := U.calling g mk a) (Vm.Alike.refl U.vm) zK, va_AO.moved (u := U) (U := U.calling g mk a) (Vm.Alike.refl U.vm) zO, zD⟩, fun U hU hW => ⟨rfl, by rw [hU], by rw [hU]; exact hPc, va_K.moved hW.alike X.2.2.2.2.2.1, va_AO.moved hW.alike X.2.2.2.2.2.2.2, hDc.weaken (fun _ _ _ _ => trivial)⟩⟩ rfl rfl hl.1 rfl (by show 2 * 0 + _ ≤ 8; omega) hd hk) hS (fun q _ h => hFc q h) hFc (fun u t H1 locs ht hvm hw hB hz1 hk1 hS => ?_)
  obtain ⟨hP1, hD1⟩ := hB
  rw [ht] at hP1
  obtain ⟨hP, hD⟩ := va_join (wr := ws) (w1 := blk u) hP hD [ws.length] (List.range ws.length) (v_last ws) (v_front ws) (v_nodup _ List.nodup_range) (fun i h1 h2 => by simp at h1 h2; omega) hk1 hFc hP1 hD1
  rw [h1 u] at hP hD
  exact k u hw H1 locs ls hP hD hS hl
theorem v_ret (X : XI D T3 A p s m args c cc nL own) {blk : (Nat → Nat) → va_W} {h0 : Nat} (hd : decode cc pc = .ok (.return_, 1)) (hr : meth.sig.returnType = none) (hlk : meth.locks = false) (u : Nat → Nat) (hu : u 0 = h0) (hw : ws = blk u) : VI D A p l e R s m args below meth c kc ks (MQ below (va_Qv (fun u : Nat → Nat => u 0 = h0) (fun u t => va_P D z_cl (blk u) t.heap ∧ va_D A (blk u)) A) args s kc ks A) nL pc lv [] ws := by
  subst hw
  exact fun H locs ls hP hD hS hl => W.vret X.1 X.2.1 hr (fun t ht hW => ⟨⟨u, rfl, hu, by rw [ht]; exact hP, hD⟩, hS.F ht⟩) hS.2.2 hd hlk
end VROWS
