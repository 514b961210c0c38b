def z_nests : List (String × Nat × MethodName) := [("CaptionTallies$Draft", 19, y_CT_at), ("CaptionTallies$Draft", 31, y_CT_isLetter), ("CaptionTallies$Draft", 35, y_CT_isSign), ("CaptionTallies$History", 25, y_CT_isIndex), ("CaptionTallies$State", 59, y_CT_copyFlags), ("CaptionTallies$State", 63, y_CT_copyRow), ("CaptionTallies$State", 67, y_CT_isIndex), ("CaptionTallies$State", 98, y_CT_put), ("CaptionTallies$State", 102, y_CT_isLetter), ("CaptionTallies$State", 117, y_CT_at), ("CaptionTallies$State", 108, y_CT_smallOf), ("CaptionTallies$Groups", 38, y_CT_put), ("CaptionTallies$Groups", 53, y_CT_at), ("CaptionTallies$Ranks", 65, y_CT_at), ("CaptionTallies$Ranks", 53, y_CT_put), ("CaptionTallies$Groups", 57, y_CT_isIndex), ("CaptionTallies$Draft", 23, y_CT_put), ("CaptionTallies$Counts", 58, y_CT_at), ("CaptionTallies$Counts", 47, y_CT_put), ("CaptionTallies$Rounds", 83, y_CT_isIndex), ("CaptionTallies$Rounds", 61, y_CT_put), ("CaptionTallies$Rounds", 108, y_CT_at), ("CaptionTallies$Order", 25, y_CT_isIndex), ("CaptionTallies$Order", 43, y_CT_at), ("CaptionTallies$Shares", 47, y_CT_portion), ("CaptionTallies$Shares", 68, y_CT_at), ("CaptionTallies$Distances", 34, y_CT_at)]
def z_cl : List vw_C := [(N_CT, T_CT, 12), (N_DR, T_DR, 2), (N_ST, T_ST, 13), (N_HI, T_HI, 2), (N_GR, T_GR, 3), (N_CO, T_CO, 3), (N_RA, T_RA, 3), (N_RO, T_RO, 7), (N_OR, T_OR, 4), (N_SH, T_SH, 2), (N_DI, T_DI, 2), (N_MO, T_MO, 24)]
def z_nf (ci : Nat) : Nat := ([12, 2, 13, 2, 3, 3, 3, 7, 4, 2, 2, 24] : List Nat).getD ci 0
def z_ct (k : Nat) : Option Nat := ([some 78, some 0, some 80, some 13, none, some 82, some 85, some 89, some 93, some 100, some 105, some 108] : List (Option Nat)).getD k none
/-- what a field of an object is: a cell, or a number of its own row -/
def z_fl (ci c k : Nat) : Option Nat := match ci with
  | 0 => z_ct k
  | 1 => if k = 0 then some (c + 1) else none
  | 2 => if k = 0 then none else some (c + k)
  | 3 => if k = 0 then some (c + 1) else none
  | 4 => if k < 2 then some (c + 1 + k) else none
  | 7 => if k < 6 then some (c + 1 + k) else none
  | 11 => if k < 4 then some (c + 1 + k) else if k < 7 then none else if k < 23 then some (c + k - 2) else none
  | _ => some (c + 1 + k)
/-- the launch's classes, the array classes, the cells' addresses, the least address -/
abbrev Gm : Type := va_G × (ClassId × ClassId × ClassId) × (Nat → Nat) × Nat
def z_v (ad : Nat → Nat) (f : Nat → Int32) (k : Nat) (o : Option Nat) : Value := match o with
  | none => .int (f k)
  | some j => .ref (ad j)
def z_fs (ad : Nat → Nat) (ci c : Nat) (f : Nat → Int32) : List Value := (List.range (z_nf ci)).map (fun k => z_v ad f k (z_fl ci c k))
def z_cell (Γ : Gm) (c : Nat) (f : Nat → Int32) : va_E := match (kd c).1 with
  | 0 => .inr ((kd c).2, z_fs Γ.2.2.1 (kd c).2 c f)
  | 1 => .inl (Γ.2.1.1, (kd c).2, .inl f)
  | 2 => .inl (Γ.2.1.2.1, (kd c).2, .inl f)
  | _ => .inl (Γ.2.1.2.2, (kd c).2, .inr (.inr (.inr (.inr (fun i => some (Γ.2.2.1 (f i).toNatClampNeg))))))
def wld (Γ : Gm) (σ : Sg) : va_W := (List.range 133).map (fun c => (Γ.2.2.1 c, z_cell Γ c (σ c)))
def z_ty (Γ : Gm) : List (ClassId × FieldType) := [(Γ.2.1.1, .int), (Γ.2.1.2.1, .boolean), (Γ.2.1.2.2, .object N_ST)]
def okG (Γ : Gm) (U : State) : Prop := va_K Γ.1 z_cl (z_ty Γ) U ∧ (∀ i j, i < 133 → j < 133 → Γ.2.2.1 i = Γ.2.2.1 j → i = j) ∧ ∀ i, i < 133 → Γ.2.2.2 ≤ Γ.2.2.1 i
theorem okG.moved {Γ : Gm} {u U : State} (h : u.vm.Alike U.vm) (k : okG Γ u) : okG Γ U := ⟨k.1.moved h, k.2⟩
theorem wld_at (Γ : Gm) (σ : Sg) {c : Nat} (h : c < 133) : (wld Γ σ)[c]? = some (Γ.2.2.1 c, z_cell Γ c (σ c)) := by
  unfold wld
  rw [List.getElem?_map, List.getElem?_range h]
  rfl
theorem wld_set (Γ : Gm) (σ : Sg) {c : Nat} (h : c < 133) (f : Nat → Int32) {q : Nat × va_E} (hq : q = (Γ.2.2.1 c, z_cell Γ c f)) : (wld Γ σ).set c q = wld Γ (upc σ c f) := by
  subst hq
  apply List.ext_getElem?
  intro j
  by_cases hj : j < 133
  · rw [wld_at Γ (upc σ c f) hj]
    by_cases e : j = c
    · subst e
      rw [List.getElem?_set_self (by simpa [wld] using h)]
      simp [upc]
    · rw [List.getElem?_set_ne (Ne.symm e), wld_at Γ σ hj]
      simp [upc, e]
  · rw [List.getElem?_eq_none (by simpa [wld] using Nat.le_of_not_lt hj), List.getElem?_eq_none (by simpa [wld] using Nat.le_of_not_lt hj)]
theorem wld_D {Γ : Gm} {U : State} (h : okG Γ U) (σ : Sg) : va_D (fun q : Nat => Γ.2.2.2 ≤ q) (wld Γ σ) := by
  have key : ∀ (k : Nat) (q : Nat × va_E), (wld Γ σ)[k]? = some q → k < 133 ∧ q.1 = Γ.2.2.1 k := by
    intro k q hk
    have hl : k < 133 := by simpa [wld] using (List.getElem?_eq_some_iff.mp hk).1
    rw [wld_at Γ σ hl] at hk
    cases hk
    exact ⟨hl, rfl⟩
  refine ⟨fun i j x y hi hj hxy => ?_, fun k q hk => ?_⟩
  · obtain ⟨h1, h2⟩ := key i x hi
    obtain ⟨h3, h4⟩ := key j y hj
    exact h.2.1 i j h1 h3 (by rw [← h2, ← h4]; exact hxy)
  · obtain ⟨h1, h2⟩ := key k q hk
    show Γ.2.2.2 ≤ q.1
    rw [h2]
    exact h.2.2 k h1
theorem kd_lt {c t n : Nat} (h : kd c = (t + 1, n)) : c < 133 := by
  rcases Nat.lt_or_ge c 133 with q | q
  · exact q
  · exfalso
    unfold kd at h
    rw [if_neg (by omega), List.getD_eq_getElem?_getD, List.getElem?_eq_none (by simp [kdO]; omega)] at h
    simp at h
theorem z_cell_1 {Γ : Gm} {c n : Nat} {f : Nat → Int32} (h : kd c = (1, n)) : z_cell Γ c f = .inl (Γ.2.1.1, n, .inl f) := by simp only [z_cell, h]
theorem z_cell_2 {Γ : Gm} {c n : Nat} {f : Nat → Int32} (h : kd c = (2, n)) : z_cell Γ c f = .inl (Γ.2.1.2.1, n, .inl f) := by simp only [z_cell, h]
theorem z_cell_3 {Γ : Gm} {c n : Nat} {f : Nat → Int32} (h : kd c = (3, n)) : z_cell Γ c f = .inl (Γ.2.1.2.2, n, .inr (.inr (.inr (.inr (fun i => some (Γ.2.2.1 (f i).toNatClampNeg)))))) := by simp only [z_cell, h]
theorem z_cell_0 {Γ : Gm} {c n : Nat} {f : Nat → Int32} (h : kd c = (0, n)) : z_cell Γ c f = .inr (n, z_fs Γ.2.2.1 n c f) := by simp only [z_cell, h]
theorem wld_1 {Γ : Gm} {σ : Sg} {c n : Nat} (h : kd c = (1, n)) : (wld Γ σ)[c]? = some (Γ.2.2.1 c, .inl (Γ.2.1.1, n, .inl (σ c))) := by rw [wld_at Γ σ (kd_lt h), z_cell_1 h]
theorem wld_2 {Γ : Gm} {σ : Sg} {c n : Nat} (h : kd c = (2, n)) : (wld Γ σ)[c]? = some (Γ.2.2.1 c, .inl (Γ.2.1.2.1, n, .inl (σ c))) := by rw [wld_at Γ σ (kd_lt h), z_cell_2 h]
theorem wld_3 {Γ : Gm} {σ : Sg} {c n : Nat} (h : kd c = (3, n)) : (wld Γ σ)[c]? = some (Γ.2.2.1 c, .inl (Γ.2.1.2.2, n, .inr (.inr (.inr (.inr (fun i => some (Γ.2.2.1 (σ c i).toNatClampNeg))))))) := by rw [wld_at Γ σ (kd_lt h), z_cell_3 h]
theorem wld_0 {Γ : Gm} {σ : Sg} {c n : Nat} (hc : c < 133) (h : kd c = (0, n)) : (wld Γ σ)[c]? = some (Γ.2.2.1 c, .inr (n, z_fs Γ.2.2.1 n c (σ c))) := by rw [wld_at Γ σ hc, z_cell_0 h]
theorem z_fs_at {ad : Nat → Nat} {ci c k : Nat} {f : Nat → Int32} (h : k < z_nf ci) : (z_fs ad ci c f)[k]? = some (z_v ad f k (z_fl ci c k)) := by
  unfold z_fs
  rw [List.getElem?_map, List.getElem?_range h]
  rfl
theorem z_fs_set {ad : Nat → Nat} {ci c k : Nat} {f : Nat → Int32} {v : Int32} (hf : z_fl ci c k = none) : (z_fs ad ci c f).set k (.int v) = z_fs ad ci c (upd f k v) := by
  apply List.ext_getElem?
  intro j
  by_cases hj : j < z_nf ci
  · rw [z_fs_at (f := upd f k v) hj]
    by_cases e : j = k
    · subst e
      rw [List.getElem?_set_self (by simpa [z_fs] using hj), hf]
      simp [z_v, upd]
    · rw [List.getElem?_set_ne (Ne.symm e), z_fs_at hj]
      cases h : z_fl ci c j <;> simp [z_v, upd, e]
  · rw [List.getElem?_eq_none (by simpa [z_fs] using Nat.le_of_not_lt hj), List.getElem?_eq_none (by simpa [z_fs] using Nat.le_of_not_lt hj)]
/-! the machine at an instruction, with its locals, its stack and the cells' contents -/
def zN (U : State) : Prop := ∀ q ∈ z_nests, va_Nw (.methodLinkNest q.1 q.2.1 q.2.2 "CaptionTallies") U
theorem zN.warm {s U : State} (hW : s.WarmedH U.vm) (h : zN s) : zN U := fun q hq => va_Nw.warmM hW (h q hq)
theorem zN.same {u U : State} (hv : u.vm = U.vm) (h : zN u) : zN U := fun q hq => va_Nw.same rfl hv (h q hq)
def Cx (Γ : Gm) (p : Program) (R : Room) (s : State) (m : MethodId) (args : Array Value) (c : Code) (cc : ByteArray) (nL : Nat) (own : String) (kc ks : Nat) : Prop :=
  p.tables.exec = Jvm.exec ∧ c.code = cc ∧ c.maxLocals = nL ∧ s.vm.findClass own = some m.cls ∧ (∀ w ∈ lw_gt, w.before args s = true) ∧ okG Γ s ∧ Γ.2.2.2 ≤ s.heap.size ∧ kc ≤ R.cells ∧ ks ≤ R.slots ∧ zN s
def G (Γ : Gm) (p : Program) (l : Launch) (e : Env) (R : Room) (s : State) (m : MethodId) (args : Array Value) (below : List Frame) (meth : Method) (c : Code) (kc ks : Nat) (Q : State → Prop) (nL : Nat) (pc : Nat) (lv : List (Nat × Value)) (st : List Value) (σ : Sg) : Prop :=
  ∀ (H : Heap) (locs : List Loc) (ls : Array Slot), va_P Γ.1 z_cl (wld Γ σ) H → va_S (fun q : Nat => Γ.2.2.2 ≤ q) s.heap H locs → lv_has ls nL lv → W p l e R s m args below meth c H locs kc ks Q (F0 m pc ls st)
def Qx (Γ : Gm) (res : Option Value) (σ' : Sg) : Array Value → State → Outcome → State → Prop := fun _ st o t => o = .returned res ∧ va_P Γ.1 z_cl (wld Γ σ') t.heap ∧ va_F (fun q : Nat => Γ.2.2.2 ≤ q) st t
def z_rm (d L : Nat) : Room := { frames := d, cells := 0, slots := 0, locals := L }
def Pre0 (Γ : Gm) (σ : Sg) (U : State) : Prop := va_P Γ.1 z_cl (wld Γ σ) U.heap ∧ okG Γ U ∧ Γ.2.2.2 ≤ U.heap.size ∧ zN U
/-- a method's contract: from these arguments and contents it returns this, with those contents -/
def Ctr (Γ : Gm) (l : Launch) (y : MethodName) (bytes : ByteArray) (nL : Nat) (ret : Option FieldType) (d L : Nat) (As : List Value) (σ σ' : Sg) (res : Option Value) : Prop :=
  Met l y (Cond.code y bytes nL ret :: lw_gt) (z_rm d L) (va_Pc As (Pre0 Γ σ)) (Qx Γ res σ') 0 0 (fun q : Nat => Γ.2.2.2 ≤ q)
theorem lw_goodIn {c : Cond} (h : c ∈ lw_gt) : GoodIn lw_gt (c :: lw_gt) := by
  have key : ∀ w ∈ lw_gt, w ∈ lw_gt ∧ ((w.onTables && w.keeps) = true ∨ ∃ ty, w = .arrayClass ty) := fun w hw => ⟨hw, good_of_word (List.mem_filter.mp hw).2⟩
  intro w hw
  rcases List.mem_cons.mp hw with rfl | hw
  · exact key w h
  · exact key w hw
theorem Ctr.of {Γ : Gm} {l : Launch} {y : MethodName} {bytes : ByteArray} {nL : Nat} {ret : Option FieldType} {d L : Nat} {As : List Value} {σ σ' : Sg} {res : Option Value} {lv : List (Nat × Value)} (hy : plainName y.cls = true) (hn : (lg_sl As).length ≤ nL) (hlv : lv_args 0 As = lv)
    (body : ∀ (p : Program) (e : Env) (s : State) (m : MethodId) (args : Array Value) (below : List Frame) (meth : Method) (c : Code), Cx Γ p (z_rm d L) s m args c bytes nL y.cls 0 0 → meth.sig.returnType = ret → meth.locks = false →
      G Γ p l e (z_rm d L) s m args below meth c 0 0 (MQ below (Qx Γ res σ') args s 0 0 (fun q : Nat => Γ.2.2.2 ≤ q)) nL 0 lv [] σ) : Ctr Γ l y bytes nL ret d L As σ σ' res := by
  refine Met.ofW (cc := bytes) (maxL := nL) (ret := ret) hy rfl ?_
  intro p e s m args below meth c s₁ B hml hv
  obtain ⟨rfl, hP, hK, hsz, hzN⟩ := hv
  have hts := atoms_spec (ws := Cond.code y bytes nL ret :: lw_gt) B.pre
  have k := body p e s m As.toArray below meth c ⟨B.exec, B.bytes, hml, findClass_of_methodNamed B.named, fun w hw => hts w (List.mem_cons_of_mem _ hw), hK, hsz, Nat.le_refl _, Nat.le_refl _, hzN⟩ B.returns B.notSynchronized s.heap [] _ hP va_S.rf (by rw [← hlv]; exact lv_entry As hn)
  rw [lg_entry_eq]
  exact k

section ZROWS
variable {Γ : Gm} {p : Program} {l : Launch} {e : Env} {R : Room} {s : State} {m : MethodId} {args : Array Value} {below : List Frame} {meth : Method} {c : Code} {kc ks : Nat} {Q : State → Prop} {nL : Nat} {cc : ByteArray} {own : String} {pc : Nat} {lv lv' : List (Nat × Value)} {st : List Value} {σ : Sg}
theorem g_iconst (X : Cx Γ p R s m args c cc nL own kc ks) {n : Int} {v : Int32} (hd : decode cc pc = .ok (.iconst n, 1)) (hv : Int32.ofInt n = v) (k : G Γ p l e R s m args below meth c kc ks Q nL (pc + 1) lv (.int v :: st) σ) : G Γ p l e R s m args below meth c kc ks Q nL pc lv (st) σ :=
  fun H locs ls hP hS hl => lv_iconst X.1 X.2.1 hd hv (k H locs ls hP hS hl)
theorem g_bipush (X : Cx Γ p R s m args c cc nL own kc ks) {n : Int} {v : Int32} (hd : decode cc pc = .ok (.bipush n, 2)) (hv : (Int8.ofInt n).toInt32 = v) (k : G Γ p l e R s m args below meth c kc ks Q nL (pc + 2) lv (.int v :: st) σ) : G Γ p l e R s m args below meth c kc ks Q nL pc lv (st) σ :=
  fun H locs ls hP hS hl => lv_bipush X.1 X.2.1 hd hv (k H locs ls hP hS hl)
theorem g_sipush (X : Cx Γ p R s m args c cc nL own kc ks) {n : Int} {v : Int32} (hd : decode cc pc = .ok (.sipush n, 3)) (hv : (Int16.ofInt n).toInt32 = v) (k : G Γ p l e R s m args below meth c kc ks Q nL (pc + 3) lv (.int v :: st) σ) : G Γ p l e R s m args below meth c kc ks Q nL pc lv (st) σ :=
  fun H locs ls hP hS hl => lv_sipush X.1 X.2.1 hd hv (k H locs ls hP hS hl)
theorem g_iload_n (X : Cx Γ p R s m args c cc nL own kc ks) {k9 : Fin 4} {x : Int32} (hd : decode cc pc = .ok (.iload_n k9, 1)) (j : Nat) (hj : lv[j]? = some ((k9 : Nat), .int x)) (k : G Γ p l e R s m args below meth c kc ks Q nL (pc + 1) lv (.int x :: st) σ) : G Γ p l e R s m args below meth c kc ks Q nL pc lv (st) σ :=
  fun H locs ls hP hS hl => lv_iload_n X.1 X.2.1 hd rfl (lv_at hl j hj) (k H locs ls hP hS hl)
theorem g_iload (X : Cx Γ p R s m args c cc nL own kc ks) {i : Nat} {x : Int32} (hd : decode cc pc = .ok (.iload i, 2)) (j : Nat) (hj : lv[j]? = some (i, .int x)) (k : G Γ p l e R s m args below meth c kc ks Q nL (pc + 2) lv (.int x :: st) σ) : G Γ p l e R s m args below meth c kc ks Q nL pc lv (st) σ :=
  fun H locs ls hP hS hl => lv_iload X.1 X.2.1 hd (lv_at hl j hj) (k H locs ls hP hS hl)
theorem g_aload_n (X : Cx Γ p R s m args c cc nL own kc ks) {k9 : Fin 4} {x : Nat} (hd : decode cc pc = .ok (.aload_n k9, 1)) (j : Nat) (hj : lv[j]? = some ((k9 : Nat), .ref x)) (k : G Γ p l e R s m args below meth c kc ks Q nL (pc + 1) lv (.ref x :: st) σ) : G Γ p l e R s m args below meth c kc ks Q nL pc lv (st) σ :=
  fun H locs ls hP hS hl => lv_aload_n X.1 X.2.1 hd rfl (lv_at hl j hj) (k H locs ls hP hS hl)
theorem g_aload (X : Cx Γ p R s m args c cc nL own kc ks) {i : Nat} {x : Nat} (hd : decode cc pc = .ok (.aload i, 2)) (j : Nat) (hj : lv[j]? = some (i, .ref x)) (k : G Γ p l e R s m args below meth c kc ks Q nL (pc + 2) lv (.ref x :: st) σ) : G Γ p l e R s m args below meth c kc ks Q nL pc lv (st) σ :=
  fun H locs ls hP hS hl => lv_aload X.1 X.2.1 hd (lv_at hl j hj) (k H locs ls hP hS hl)
theorem g_iadd (X : Cx Γ p R s m args c cc nL own kc ks) {x y : Int32} (hd : decode cc pc = .ok (.iadd, 1))  (k : G Γ p l e R s m args below meth c kc ks Q nL (pc + 1) lv (.int (x + y) :: st) σ) : G Γ p l e R s m args below meth c kc ks Q nL pc lv (.int y :: .int x :: st) σ :=
  fun H locs ls hP hS hl => lv_iadd X.1 X.2.1 hd (k H locs ls hP hS hl)
theorem g_isub (X : Cx Γ p R s m args c cc nL own kc ks) {x y : Int32} (hd : decode cc pc = .ok (.isub, 1))  (k : G Γ p l e R s m args below meth c kc ks Q nL (pc + 1) lv (.int (x - y) :: st) σ) : G Γ p l e R s m args below meth c kc ks Q nL pc lv (.int y :: .int x :: st) σ :=
  fun H locs ls hP hS hl => lv_isub X.1 X.2.1 hd (k H locs ls hP hS hl)
theorem g_imul (X : Cx Γ p R s m args c cc nL own kc ks) {x y : Int32} (hd : decode cc pc = .ok (.imul, 1))  (k : G Γ p l e R s m args below meth c kc ks Q nL (pc + 1) lv (.int (x * y) :: st) σ) : G Γ p l e R s m args below meth c kc ks Q nL pc lv (.int y :: .int x :: st) σ :=
  fun H locs ls hP hS hl => lv_imul X.1 X.2.1 hd (k H locs ls hP hS hl)
theorem g_iand (X : Cx Γ p R s m args c cc nL own kc ks) {x y : Int32} (hd : decode cc pc = .ok (.iand, 1))  (k : G Γ p l e R s m args below meth c kc ks Q nL (pc + 1) lv (.int (x &&& y) :: st) σ) : G Γ p l e R s m args below meth c kc ks Q nL pc lv (.int y :: .int x :: st) σ :=
  fun H locs ls hP hS hl => lv_iand X.1 X.2.1 hd (k H locs ls hP hS hl)
theorem g_ior (X : Cx Γ p R s m args c cc nL own kc ks) {x y : Int32} (hd : decode cc pc = .ok (.ior, 1))  (k : G Γ p l e R s m args below meth c kc ks Q nL (pc + 1) lv (.int (x ||| y) :: st) σ) : G Γ p l e R s m args below meth c kc ks Q nL pc lv (.int y :: .int x :: st) σ :=
  fun H locs ls hP hS hl => lv_ior X.1 X.2.1 hd (k H locs ls hP hS hl)
theorem g_ixor (X : Cx Γ p R s m args c cc nL own kc ks) {x y : Int32} (hd : decode cc pc = .ok (.ixor, 1))  (k : G Γ p l e R s m args below meth c kc ks Q nL (pc + 1) lv (.int (x ^^^ y) :: st) σ) : G Γ p l e R s m args below meth c kc ks Q nL pc lv (.int y :: .int x :: st) σ :=
  fun H locs ls hP hS hl => lv_ixor X.1 X.2.1 hd (k H locs ls hP hS hl)
theorem g_ishl (X : Cx Γ p R s m args c cc nL own kc ks) {x y : Int32} (hd : decode cc pc = .ok (.ishl, 1))  (k : G Γ p l e R s m args below meth c kc ks Q nL (pc + 1) lv (.int (isl x y) :: st) σ) : G Γ p l e R s m args below meth c kc ks Q nL pc lv (.int y :: .int x :: st) σ :=
  fun H locs ls hP hS hl => lv_ishl X.1 X.2.1 hd (k H locs ls hP hS hl)
theorem g_ishr (X : Cx Γ p R s m args c cc nL own kc ks) {x y : Int32} (hd : decode cc pc = .ok (.ishr, 1))  (k : G Γ p l e R s m args below meth c kc ks Q nL (pc + 1) lv (.int (isr x y) :: st) σ) : G Γ p l e R s m args below meth c kc ks Q nL pc lv (.int y :: .int x :: st) σ :=
  fun H locs ls hP hS hl => lv_ishr X.1 X.2.1 hd (k H locs ls hP hS hl)
theorem g_idiv (X : Cx Γ p R s m args c cc nL own kc ks) {x y : Int32} (hd : decode cc pc = .ok (.idiv, 1)) (hne : ¬ y = 0) (k : G Γ p l e R s m args below meth c kc ks Q nL (pc + 1) lv (.int (x / y) :: st) σ) : G Γ p l e R s m args below meth c kc ks Q nL pc lv (.int y :: .int x :: st) σ :=
  fun H locs ls hP hS hl => lv_idiv X.1 X.2.1 hd hne (k H locs ls hP hS hl)
theorem g_irem (X : Cx Γ p R s m args c cc nL own kc ks) {x y : Int32} (hd : decode cc pc = .ok (.irem, 1)) (hne : ¬ y = 0) (k : G Γ p l e R s m args below meth c kc ks Q nL (pc + 1) lv (.int (irm x y) :: st) σ) : G Γ p l e R s m args below meth c kc ks Q nL pc lv (.int y :: .int x :: st) σ :=
  fun H locs ls hP hS hl => lv_irem X.1 X.2.1 hd hne (k H locs ls hP hS hl)
theorem g_ineg (X : Cx Γ p R s m args c cc nL own kc ks) {x : Int32} (hd : decode cc pc = .ok (.ineg, 1))  (k : G Γ p l e R s m args below meth c kc ks Q nL (pc + 1) lv (.int (-x) :: st) σ) : G Γ p l e R s m args below meth c kc ks Q nL pc lv (.int x :: st) σ :=
  fun H locs ls hP hS hl => lv_ineg X.1 X.2.1 hd (k H locs ls hP hS hl)
theorem g_i2c (X : Cx Γ p R s m args c cc nL own kc ks) {x : Int32} (hd : decode cc pc = .ok (.i2c, 1))  (k : G Γ p l e R s m args below meth c kc ks Q nL (pc + 1) lv (.int (x.toUInt32 % 65536).toInt32 :: st) σ) : G Γ p l e R s m args below meth c kc ks Q nL pc lv (.int x :: st) σ :=
  fun H locs ls hP hS hl => lv_i2c X.1 X.2.1 hd rfl (k H locs ls hP hS hl)
theorem g_dup (X : Cx Γ p R s m args c cc nL own kc ks) {v : Value} (hd : decode cc pc = .ok (.dup, 1)) (hv : v.category = 1) (k : G Γ p l e R s m args below meth c kc ks Q nL (pc + 1) lv (v :: v :: st) σ) : G Γ p l e R s m args below meth c kc ks Q nL pc lv (v :: st) σ :=
  fun H locs ls hP hS hl => lv_dup X.1 X.2.1 hd hv (k H locs ls hP hS hl)
theorem g_dup2 (X : Cx Γ p R s m args c cc nL own kc ks) {v w : Value} (hd : decode cc pc = .ok (.dup2, 1)) (hv : v.category = 1) (hw : w.category = 1) (k : G Γ p l e R s m args below meth c kc ks Q nL (pc + 1) lv (v :: w :: v :: w :: st) σ) : G Γ p l e R s m args below meth c kc ks Q nL pc lv (v :: w :: st) σ :=
  fun H locs ls hP hS hl => lv_dup2_11 X.1 X.2.1 hd hv hw (k H locs ls hP hS hl)
theorem g_istore_n (X : Cx Γ p R s m args c cc nL own kc ks) {i : Nat} {k9 : Fin 4} {x : Int32} (hd : decode cc pc = .ok (.istore_n k9, 1)) (hi : (k9 : Nat) = i) (hn : i < nL) (hl9 : (i, Value.int x) :: lv.filter (fun q => !(q.1 == i) && !(q.1 + 1 == i && q.2.category == 2)) = lv') (k : G Γ p l e R s m args below meth c kc ks Q nL (pc + 1) lv' (st) σ) : G Γ p l e R s m args below meth c kc ks Q nL pc lv (.int x :: st) σ :=
  fun H locs ls hP hS hl => lv_istore_n X.1 X.2.1 hd hi hl hn hl9 (fun ls' hl' => k H locs ls' hP hS hl')
theorem g_istore (X : Cx Γ p R s m args c cc nL own kc ks) {i : Nat} {x : Int32} (hd : decode cc pc = .ok (.istore i, 2)) (hn : i < nL) (hl9 : (i, Value.int x) :: lv.filter (fun q => !(q.1 == i) && !(q.1 + 1 == i && q.2.category == 2)) = lv') (k : G Γ p l e R s m args below meth c kc ks Q nL (pc + 2) lv' (st) σ) : G Γ p l e R s m args below meth c kc ks Q nL pc lv (.int x :: st) σ :=
  fun H locs ls hP hS hl => lv_istore X.1 X.2.1 hd hl hn hl9 (fun ls' hl' => k H locs ls' hP hS hl')
theorem g_astore_n (X : Cx Γ p R s m args c cc nL own kc ks) {i : Nat} {k9 : Fin 4} {x : Nat} (hd : decode cc pc = .ok (.astore_n k9, 1)) (hi : (k9 : Nat) = i) (hn : i < nL) (hl9 : (i, Value.ref x) :: lv.filter (fun q => !(q.1 == i) && !(q.1 + 1 == i && q.2.category == 2)) = lv') (k : G Γ p l e R s m args below meth c kc ks Q nL (pc + 1) lv' (st) σ) : G Γ p l e R s m args below meth c kc ks Q nL pc lv (.ref x :: st) σ :=
  fun H locs ls hP hS hl => lv_astore_n X.1 X.2.1 hd hi hl hn hl9 (fun ls' hl' => k H locs ls' hP hS hl')
theorem g_astore (X : Cx Γ p R s m args c cc nL own kc ks) {i : Nat} {x : Nat} (hd : decode cc pc = .ok (.astore i, 2)) (hn : i < nL) (hl9 : (i, Value.ref x) :: lv.filter (fun q => !(q.1 == i) && !(q.1 + 1 == i && q.2.category == 2)) = lv') (k : G Γ p l e R s m args below meth c kc ks Q nL (pc + 2) lv' (st) σ) : G Γ p l e R s m args below meth c kc ks Q nL pc lv (.ref x :: st) σ :=
  fun H locs ls hP hS hl => lv_astore X.1 X.2.1 hd hl hn hl9 (fun ls' hl' => k H locs ls' hP hS hl')
theorem g_iinc (X : Cx Γ p R s m args c cc nL own kc ks) {i j : Nat} {n : Int} {x v : Int32} (hd : decode cc pc = .ok (.iinc i n, 3)) (hj : lv[j]? = some (i, .int x)) (hv : x + Int32.ofInt n = v) (hn : i < nL) (hl9 : (i, Value.int v) :: lv.filter (fun q => !(q.1 == i) && !(q.1 + 1 == i && q.2.category == 2)) = lv') (k : G Γ p l e R s m args below meth c kc ks Q nL (pc + 3) lv' (st) σ) : G Γ p l e R s m args below meth c kc ks Q nL pc lv (st) σ :=
  fun H locs ls hP hS hl => lv_iinc X.1 X.2.1 hd hl hj hv hn hl9 (fun ls' hl' => k H locs ls' hP hS hl')
theorem g_if_eq (X : Cx Γ p R s m args c cc nL own kc ks) {x : Int32} {off : Int} (hd : decode cc pc = .ok (.ifCond .eq off, 3)) (tgt : Nat) (ht : (pc : Int) + off = (tgt : Int)) (kt : x = nI 0 → G Γ p l e R s m args below meth c kc ks Q nL tgt lv (st) σ) (kf : ¬ x = nI 0 → G Γ p l e R s m args below meth c kc ks Q nL (pc + 3) lv (st) σ) : G Γ p l e R s m args below meth c kc ks Q nL pc lv (.int x :: st) σ :=
  fun H locs ls hP hS hl => lv_if_eq X.1 X.2.1 hd ht (fun q => kt q H locs ls hP hS hl) (fun q => kf q H locs ls hP hS hl)
theorem g_ic_eq (X : Cx Γ p R s m args c cc nL own kc ks) {x y : Int32} {off : Int} (hd : decode cc pc = .ok (.if_icmp .eq off, 3)) (tgt : Nat) (ht : (pc : Int) + off = (tgt : Int)) (kt : x = y → G Γ p l e R s m args below meth c kc ks Q nL tgt lv (st) σ) (kf : ¬ x = y → G Γ p l e R s m args below meth c kc ks Q nL (pc + 3) lv (st) σ) : G Γ p l e R s m args below meth c kc ks Q nL pc lv (.int y :: .int x :: st) σ :=
  fun H locs ls hP hS hl => lv_icmp_eq X.1 X.2.1 hd ht (fun q => kt q H locs ls hP hS hl) (fun q => kf q H locs ls hP hS hl)
theorem g_if_ne (X : Cx Γ p R s m args c cc nL own kc ks) {x : Int32} {off : Int} (hd : decode cc pc = .ok (.ifCond .ne off, 3)) (tgt : Nat) (ht : (pc : Int) + off = (tgt : Int)) (kt : ¬ x = nI 0 → G Γ p l e R s m args below meth c kc ks Q nL tgt lv (st) σ) (kf : x = nI 0 → G Γ p l e R s m args below meth c kc ks Q nL (pc + 3) lv (st) σ) : G Γ p l e R s m args below meth c kc ks Q nL pc lv (.int x :: st) σ :=
  fun H locs ls hP hS hl => lv_if_ne X.1 X.2.1 hd ht (fun q => kt q H locs ls hP hS hl) (fun q => kf q H locs ls hP hS hl)
theorem g_ic_ne (X : Cx Γ p R s m args c cc nL own kc ks) {x y : Int32} {off : Int} (hd : decode cc pc = .ok (.if_icmp .ne off, 3)) (tgt : Nat) (ht : (pc : Int) + off = (tgt : Int)) (kt : ¬ x = y → G Γ p l e R s m args below meth c kc ks Q nL tgt lv (st) σ) (kf : x = y → G Γ p l e R s m args below meth c kc ks Q nL (pc + 3) lv (st) σ) : G Γ p l e R s m args below meth c kc ks Q nL pc lv (.int y :: .int x :: st) σ :=
  fun H locs ls hP hS hl => lv_icmp_ne X.1 X.2.1 hd ht (fun q => kt q H locs ls hP hS hl) (fun q => kf q H locs ls hP hS hl)
theorem g_if_lt (X : Cx Γ p R s m args c cc nL own kc ks) {x : Int32} {off : Int} (hd : decode cc pc = .ok (.ifCond .lt off, 3)) (tgt : Nat) (ht : (pc : Int) + off = (tgt : Int)) (kt : x < nI 0 → G Γ p l e R s m args below meth c kc ks Q nL tgt lv (st) σ) (kf : ¬ x < nI 0 → G Γ p l e R s m args below meth c kc ks Q nL (pc + 3) lv (st) σ) : G Γ p l e R s m args below meth c kc ks Q nL pc lv (.int x :: st) σ :=
  fun H locs ls hP hS hl => lv_if_lt X.1 X.2.1 hd ht (fun q => kt q H locs ls hP hS hl) (fun q => kf q H locs ls hP hS hl)
theorem g_ic_lt (X : Cx Γ p R s m args c cc nL own kc ks) {x y : Int32} {off : Int} (hd : decode cc pc = .ok (.if_icmp .lt off, 3)) (tgt : Nat) (ht : (pc : Int) + off = (tgt : Int)) (kt : x < y → G Γ p l e R s m args below meth c kc ks Q nL tgt lv (st) σ) (kf : ¬ x < y → G Γ p l e R s m args below meth c kc ks Q nL (pc + 3) lv (st) σ) : G Γ p l e R s m args below meth c kc ks Q nL pc lv (.int y :: .int x :: st) σ :=
  fun H locs ls hP hS hl => lv_icmp_lt X.1 X.2.1 hd ht (fun q => kt q H locs ls hP hS hl) (fun q => kf q H locs ls hP hS hl)
theorem g_if_ge (X : Cx Γ p R s m args c cc nL own kc ks) {x : Int32} {off : Int} (hd : decode cc pc = .ok (.ifCond .ge off, 3)) (tgt : Nat) (ht : (pc : Int) + off = (tgt : Int)) (kt : nI 0 ≤ x → G Γ p l e R s m args below meth c kc ks Q nL tgt lv (st) σ) (kf : ¬ nI 0 ≤ x → G Γ p l e R s m args below meth c kc ks Q nL (pc + 3) lv (st) σ) : G Γ p l e R s m args below meth c kc ks Q nL pc lv (.int x :: st) σ :=
  fun H locs ls hP hS hl => lv_if_ge X.1 X.2.1 hd ht (fun q => kt q H locs ls hP hS hl) (fun q => kf q H locs ls hP hS hl)
theorem g_ic_ge (X : Cx Γ p R s m args c cc nL own kc ks) {x y : Int32} {off : Int} (hd : decode cc pc = .ok (.if_icmp .ge off, 3)) (tgt : Nat) (ht : (pc : Int) + off = (tgt : Int)) (kt : y ≤ x → G Γ p l e R s m args below meth c kc ks Q nL tgt lv (st) σ) (kf : ¬ y ≤ x → G Γ p l e R s m args below meth c kc ks Q nL (pc + 3) lv (st) σ) : G Γ p l e R s m args below meth c kc ks Q nL pc lv (.int y :: .int x :: st) σ :=
  fun H locs ls hP hS hl => lv_icmp_ge X.1 X.2.1 hd ht (fun q => kt q H locs ls hP hS hl) (fun q => kf q H locs ls hP hS hl)
theorem g_if_gt (X : Cx Γ p R s m args c cc nL own kc ks) {x : Int32} {off : Int} (hd : decode cc pc = .ok (.ifCond .gt off, 3)) (tgt : Nat) (ht : (pc : Int) + off = (tgt : Int)) (kt : nI 0 < x → G Γ p l e R s m args below meth c kc ks Q nL tgt lv (st) σ) (kf : ¬ nI 0 < x → G Γ p l e R s m args below meth c kc ks Q nL (pc + 3) lv (st) σ) : G Γ p l e R s m args below meth c kc ks Q nL pc lv (.int x :: st) σ :=
  fun H locs ls hP hS hl => lv_if_gt X.1 X.2.1 hd ht (fun q => kt q H locs ls hP hS hl) (fun q => kf q H locs ls hP hS hl)
theorem g_ic_gt (X : Cx Γ p R s m args c cc nL own kc ks) {x y : Int32} {off : Int} (hd : decode cc pc = .ok (.if_icmp .gt off, 3)) (tgt : Nat) (ht : (pc : Int) + off = (tgt : Int)) (kt : y < x → G Γ p l e R s m args below meth c kc ks Q nL tgt lv (st) σ) (kf : ¬ y < x → G Γ p l e R s m args below meth c kc ks Q nL (pc + 3) lv (st) σ) : G Γ p l e R s m args below meth c kc ks Q nL pc lv (.int y :: .int x :: st) σ :=
  fun H locs ls hP hS hl => lv_icmp_gt X.1 X.2.1 hd ht (fun q => kt q H locs ls hP hS hl) (fun q => kf q H locs ls hP hS hl)
theorem g_if_le (X : Cx Γ p R s m args c cc nL own kc ks) {x : Int32} {off : Int} (hd : decode cc pc = .ok (.ifCond .le off, 3)) (tgt : Nat) (ht : (pc : Int) + off = (tgt : Int)) (kt : x ≤ nI 0 → G Γ p l e R s m args below meth c kc ks Q nL tgt lv (st) σ) (kf : ¬ x ≤ nI 0 → G Γ p l e R s m args below meth c kc ks Q nL (pc + 3) lv (st) σ) : G Γ p l e R s m args below meth c kc ks Q nL pc lv (.int x :: st) σ :=
  fun H locs ls hP hS hl => lv_if_le X.1 X.2.1 hd ht (fun q => kt q H locs ls hP hS hl) (fun q => kf q H locs ls hP hS hl)
theorem g_ic_le (X : Cx Γ p R s m args c cc nL own kc ks) {x y : Int32} {off : Int} (hd : decode cc pc = .ok (.if_icmp .le off, 3)) (tgt : Nat) (ht : (pc : Int) + off = (tgt : Int)) (kt : x ≤ y → G Γ p l e R s m args below meth c kc ks Q nL tgt lv (st) σ) (kf : ¬ x ≤ y → G Γ p l e R s m args below meth c kc ks Q nL (pc + 3) lv (st) σ) : G Γ p l e R s m args below meth c kc ks Q nL pc lv (.int y :: .int x :: st) σ :=
  fun H locs ls hP hS hl => lv_icmp_le X.1 X.2.1 hd ht (fun q => kt q H locs ls hP hS hl) (fun q => kf q H locs ls hP hS hl)
theorem g_goto (X : Cx Γ p R s m args c cc nL own kc ks) {off : Int} (hd : decode cc pc = .ok (.goto off, 3)) (tgt : Nat) (ht : (pc : Int) + off = (tgt : Int)) (k : G Γ p l e R s m args below meth c kc ks Q nL tgt lv (st) σ) : G Γ p l e R s m args below meth c kc ks Q nL pc lv (st) σ :=
  fun H locs ls hP hS hl => lv_goto X.1 X.2.1 hd ht (k H locs ls hP hS hl)
theorem g_tsOut (X : Cx Γ p R s m args c cc nL own kc ks) {dflt lo hi : Int} {offs : Array Int} {len : Nat} {x : Int32} (hd : decode cc pc = .ok (.tableswitch dflt lo hi offs, len)) (tgt : Nat) (h : x.toInt < lo ∨ hi < x.toInt) (ht : (pc : Int) + dflt = (tgt : Int)) (k : G Γ p l e R s m args below meth c kc ks Q nL tgt lv (st) σ) : G Γ p l e R s m args below meth c kc ks Q nL pc lv (.int x :: st) σ :=
  fun H locs ls hP hS hl => lv_tableOut X.1 X.2.1 hd h ht (k H locs ls hP hS hl)
theorem g_tsIn (X : Cx Γ p R s m args c cc nL own kc ks) {dflt lo hi : Int} {offs : Array Int} {len : Nat} {x : Int32} {off : Int} (hd : decode cc pc = .ok (.tableswitch dflt lo hi offs, len)) (tgt : Nat) (h1 : ¬ x.toInt < lo) (h2 : ¬ hi < x.toInt) (ho : offs[(x.toInt - lo).toNat]? = some off) (ht : (pc : Int) + off = (tgt : Int)) (k : G Γ p l e R s m args below meth c kc ks Q nL tgt lv (st) σ) : G Γ p l e R s m args below meth c kc ks Q nL pc lv (.int x :: st) σ :=
  fun H locs ls hP hS hl => lv_tableIn X.1 X.2.1 hd h1 h2 ho ht (k H locs ls hP hS hl)
theorem g_ls (X : Cx Γ p R s m args c cc nL own kc ks) {dflt : Int} {ps : Array (Int × Int)} {len : Nat} {x : Int32} {off : Int} (hd : decode cc pc = .ok (.lookupswitch dflt ps, len)) (tgt : Nat) (hp : (ps.toList.zip (ps.toList.drop 1)).all (fun (a, next) => a.1 < next.1) = true) (ho : Op.lookupswitch.offset ps.toList dflt x.toInt = off) (ht : (pc : Int) + off = (tgt : Int)) (k : G Γ p l e R s m args below meth c kc ks Q nL tgt lv (st) σ) : G Γ p l e R s m args below meth c kc ks Q nL pc lv (.int x :: st) σ :=
  fun H locs ls hP hS hl => lv_lookup X.1 X.2.1 hd hp ho ht (k H locs ls hP hS hl)
theorem g_sub (js : List Nat) (hj : lv_pick lv js = lv') (k : G Γ p l e R s m args below meth c kc ks Q nL pc lv' (st) σ) : G Γ p l e R s m args below meth c kc ks Q nL pc lv (st) σ :=
  fun H locs ls hP hS hl => k H locs ls hP hS (lv_sub hl js hj)
theorem g_iald (X : Cx Γ p R s m args c cc nL own kc ks) {a n : Nat} {i : Int32} (hd : decode cc pc = .ok (.iaload, 1)) (hk : kd a = (1, n)) (hi : inb i n = true) (k : G Γ p l e R s m args below meth c kc ks Q nL (pc + 1) lv (.int (σ a i.toNatClampNeg) :: st) σ) : G Γ p l e R s m args below meth c kc ks Q nL pc lv (.int i :: .ref (Γ.2.2.1 a) :: st) σ :=
  fun H locs ls hP hS hl => va_iald X.1 X.2.1 X.2.2.2.2.2.1.1 hP a 0 (wld_1 hk) rfl (inb_in hi) hd (k H locs ls hP hS hl)
theorem g_zald (X : Cx Γ p R s m args c cc nL own kc ks) {a n : Nat} {i : Int32} (hd : decode cc pc = .ok (.baload, 1)) (hk : kd a = (2, n)) (hi : inb i n = true) (k : G Γ p l e R s m args below meth c kc ks Q nL (pc + 1) lv (.int (σ a i.toNatClampNeg) :: st) σ) : G Γ p l e R s m args below meth c kc ks Q nL pc lv (.int i :: .ref (Γ.2.2.1 a) :: st) σ :=
  fun H locs ls hP hS hl => va_zald X.1 X.2.1 X.2.2.2.2.2.1.1 hP a 1 (wld_2 hk) rfl (inb_in hi) hd (k H locs ls hP hS hl)
theorem g_qald (X : Cx Γ p R s m args c cc nL own kc ks) {a n : Nat} {i : Int32} (hd : decode cc pc = .ok (.aaload, 1)) (hk : kd a = (3, n)) (hi : inb i n = true) (k : G Γ p l e R s m args below meth c kc ks Q nL (pc + 1) lv (.ref (Γ.2.2.1 (σ a i.toNatClampNeg).toNatClampNeg) :: st) σ) : G Γ p l e R s m args below meth c kc ks Q nL pc lv (.int i :: .ref (Γ.2.2.1 a) :: st) σ :=
  fun H locs ls hP hS hl => va_aldq X.1 X.2.1 X.2.2.2.2.2.1.1 hP a 2 (wld_3 hk) rfl (inb_in hi) hd (k H locs ls hP hS hl)
theorem g_alen (X : Cx Γ p R s m args c cc nL own kc ks) {a n : Nat} {v : Int32} (hd : decode cc pc = .ok (.arraylength, 1)) (hk : kd a = (1, n)) (hv : Int32.ofNat n = v) (k : G Γ p l e R s m args below meth c kc ks Q nL (pc + 1) lv (.int v :: st) σ) : G Γ p l e R s m args below meth c kc ks Q nL pc lv (.ref (Γ.2.2.1 a) :: st) σ :=
  fun H locs ls hP hS hl => va_alen X.1 X.2.1 X.2.2.2.2.2.1.1 hP a 0 (wld_1 hk) rfl hv hd (k H locs ls hP hS hl)
theorem g_zlen (X : Cx Γ p R s m args c cc nL own kc ks) {a n : Nat} {v : Int32} (hd : decode cc pc = .ok (.arraylength, 1)) (hk : kd a = (2, n)) (hv : Int32.ofNat n = v) (k : G Γ p l e R s m args below meth c kc ks Q nL (pc + 1) lv (.int v :: st) σ) : G Γ p l e R s m args below meth c kc ks Q nL pc lv (.ref (Γ.2.2.1 a) :: st) σ :=
  fun H locs ls hP hS hl => va_alen X.1 X.2.1 X.2.2.2.2.2.1.1 hP a 1 (wld_2 hk) rfl hv hd (k H locs ls hP hS hl)
theorem g_iast (X : Cx Γ p R s m args c cc nL own kc ks) {a n : Nat} {i x : Int32} (hd : decode cc pc = .ok (.iastore, 1)) (hk : kd a = (1, n)) (hi : inb i n = true) {σ1 : Sg} (he : σ1 = up σ a i.toNatClampNeg x) (k : G Γ p l e R s m args below meth c kc ks Q nL (pc + 1) lv (st) σ1) : G Γ p l e R s m args below meth c kc ks Q nL pc lv (.int x :: .int i :: .ref (Γ.2.2.1 a) :: st) σ :=
  fun H locs ls hP hS hl => by
    subst he
    exact va_iast X.1 X.2.1 X.2.2.2.2.2.1.1 hP (wld_D X.2.2.2.2.2.1 σ) hS a 0 (wld_1 hk) rfl (inb_in hi) hd (fun H1 locs1 hP1 _ hS1 => k H1 locs1 ls (by rw [wld_set Γ σ (kd_lt hk) (upd (σ a) i.toNatClampNeg x) (by rw [z_cell_1 hk])] at hP1; exact hP1) hS1 hl)
theorem g_zast (X : Cx Γ p R s m args c cc nL own kc ks) {a n : Nat} {i x : Int32} (hd : decode cc pc = .ok (.bastore, 1)) (hk : kd a = (2, n)) (hi : inb i n = true) (hx : isbit x = true) {σ1 : Sg} (he : σ1 = up σ a i.toNatClampNeg x) (k : G Γ p l e R s m args below meth c kc ks Q nL (pc + 1) lv (st) σ1) : G Γ p l e R s m args below meth c kc ks Q nL pc lv (.int x :: .int i :: .ref (Γ.2.2.1 a) :: st) σ :=
  fun H locs ls hP hS hl => by
    subst he
    exact va_zast X.1 X.2.1 X.2.2.2.2.2.1.1 hP (wld_D X.2.2.2.2.2.1 σ) hS a 1 (wld_2 hk) rfl (inb_in hi) hd (fun H1 locs1 hP1 _ hS1 => k H1 locs1 ls (by
    have hx2 : vp_nar .boolean x = x := by unfold vp_nar; rw [isbit_n hx]
    rw [hx2, wld_set Γ σ (kd_lt hk) (upd (σ a) i.toNatClampNeg x) (by rw [z_cell_2 hk])] at hP1; exact hP1) hS1 hl)
theorem kd_st {q : Nat} (h : isSt q = true) : kd q = (0, 2) ∧ q < 133 := by
  simp only [isSt, Bool.and_eq_true, decide_eq_true_eq, beq_iff_eq] at h
  refine ⟨?_, by omega⟩
  unfold kd
  rw [if_pos h.1, h.2]
  rfl
theorem g_qast (X : Cx Γ p R s m args c cc nL own kc ks) {a n q : Nat} {i : Int32} (hd : decode cc pc = .ok (.aastore, 1)) (hk : kd a = (3, n)) (hi : inb i n = true) (hq : isSt q = true) {σ1 : Sg} (he : σ1 = up σ a i.toNatClampNeg (Int32.ofNat q)) (k : G Γ p l e R s m args below meth c kc ks Q nL (pc + 1) lv (st) σ1) : G Γ p l e R s m args below meth c kc ks Q nL pc lv (.ref (Γ.2.2.1 q) :: .int i :: .ref (Γ.2.2.1 a) :: st) σ :=
  fun H locs ls hP hS hl => by
    subst he
    exact va_astq (r := (N_ST, T_ST, 13)) X.1 X.2.1 X.2.2.2.2.2.1.1 hP (wld_D X.2.2.2.2.2.1 σ) hS a 2 q 2 (wld_3 hk) rfl (wld_0 (kd_st hq).2 (kd_st hq).1) rfl (inb_in hi) hd (fun H1 locs1 hP1 _ hS1 => k H1 locs1 ls (by
    rw [wld_set Γ σ (kd_lt hk) (upd (σ a) i.toNatClampNeg (Int32.ofNat q)) (by
      rw [z_cell_3 hk]
      refine congrArg (fun h => (Γ.2.2.1 a, (Sum.inl (Γ.2.1.2.2, n, Sum.inr (Sum.inr (Sum.inr (Sum.inr h)))) : va_E))) (funext fun j => ?_)
      unfold va_up upd
      by_cases hj : j = i.toNatClampNeg
      · rw [if_pos hj, if_pos hj]
        have h5 := (kd_st hq).2
        rw [show (Int32.ofNat q).toNatClampNeg = q from nI_clamp (by omega)]
      · rw [if_neg hj, if_neg hj])] at hP1
    exact hP1) hS1 hl)
theorem g_get (X : Cx Γ p R s m args c cc nL own kc ks) {a ci k9 idx N : Nat} {C : String} {T : u_T} {v : Value} (hd : decode cc pc = .ok (.getfield idx, 3)) (ha : a < 133) (hk : kd a = (0, ci)) (hc : z_cl[ci]? = some (C, T, N)) (hkN : k9 < N) (hin : ∀ w ∈ u_ws C T N, w ∈ lw_gt) (hlk : Cond.fieldLink own idx C (T k9).2.1 (T k9).2.2.1 ∈ lw_gt) (hT : (T k9).1 = C) (hv : (z_fs Γ.2.2.1 ci a (σ a))[k9]? = some v) (k : G Γ p l e R s m args below meth c kc ks Q nL (pc + 3) lv (v :: st) σ) : G Γ p l e R s m args below meth c kc ks Q nL pc lv (.ref (Γ.2.2.1 a) :: st) σ :=
  fun H locs ls hP hS hl => va_get (ref := C) (C := C) (T := T) (N := N) X.1 X.2.1 X.2.2.2.2.1 hin X.2.2.2.1 X.2.2.2.2.2.1.1 hP a (wld_0 ha hk) hc k9 hkN (X.2.2.2.2.1 _ hlk) (by rw [hT]; exact fun _ h9 => h9) hv hd (k H locs ls hP hS hl)
theorem g_put (X : Cx Γ p R s m args c cc nL own kc ks) {a ci k9 idx N : Nat} {C : String} {T : u_T} {x : Int32} {ty0 : Nat → FieldType} {ty : FieldType} (hd : decode cc pc = .ok (.putfield idx, 3)) (ha : a < 133) (hk : kd a = (0, ci)) (hc : z_cl[ci]? = some (C, T, N)) (hkN : k9 < N) (hkF : k9 < z_nf ci) (hin : ∀ w ∈ u_ws C T N, w ∈ lw_gt) (hlk : Cond.fieldLink own idx C (T k9).2.1 (T k9).2.2.1 ∈ lw_gt) (hT : (T k9).1 = C) (hfl : z_fl ci a k9 = none) (hty : ∀ k, k < N → parseFieldDescriptor (T k).2.2.1 = some (ty0 k)) (hnm : ∀ a, a < N → ∀ b, b < N → a ≠ b → (T a).2.1 ≠ (T b).2.1) (hfin : (T k9).2.2.2 = false) (hty2 : ty0 k9 = ty) (hn : narrow ty (.int x) = .int x) (hfit : fits ty (.int x) = true) {σ1 : Sg} (he : σ1 = up σ a k9 x) (k : G Γ p l e R s m args below meth c kc ks Q nL (pc + 3) lv (st) σ1) : G Γ p l e R s m args below meth c kc ks Q nL pc lv (.int x :: .ref (Γ.2.2.1 a) :: st) σ :=
  fun H locs ls hP hS hl => by
    subst he
    exact va_put (ref := C) (C := C) (T := T) (N := N) X.1 X.2.1 X.2.2.2.2.1 hin ty0 hty hnm X.2.2.2.1 X.2.2.2.2.2.1.1 hP (wld_D X.2.2.2.2.2.1 σ) hS a (wld_0 ha hk) hc k9 hkN (X.2.2.2.2.1 _ hlk) (by rw [hT]; exact fun _ h9 => h9) hfin (by rw [← hty2]; exact hty k9 hkN) hn hfit (by simpa [z_fs] using hkF) hd (fun H1 locs1 hP1 _ hS1 => k H1 locs1 ls (by rw [wld_set Γ σ ha (upd (σ a) k9 x) (by rw [z_cell_0 hk, z_fs_set hfl])] at hP1; exact hP1) hS1 hl)
theorem g_iret (X : Cx Γ p R s m args c cc nL own kc ks) (hd : decode cc pc = .ok (.ireturn, 1)) (hr : meth.sig.returnType = some .int) (hlk : meth.locks = false) {v r : Int32} {σ' : Sg} (h : some (v, σ) = some (r, σ')) : G Γ p l e R s m args below meth c kc ks (MQ below (Qx Γ (some (.int r)) σ') args s kc ks (fun q : Nat => Γ.2.2.2 ≤ q)) nL pc lv [.int v] σ := by
  cases h
  exact fun H locs ls hP hS hl => W.iret (v := v) X.1 X.2.1 hr (fun t ht _ => ⟨rfl, by rw [ht]; exact hP, hS.F ht⟩) hS.2.2 hd hlk
theorem g_zret (X : Cx Γ p R s m args c cc nL own kc ks) (hd : decode cc pc = .ok (.ireturn, 1)) (hr : meth.sig.returnType = some .boolean) (hlk : meth.locks = false) {v r : Int32} {σ' : Sg} (hb : isbit v = true) (h : some (v, σ) = some (r, σ')) : G Γ p l e R s m args below meth c kc ks (MQ below (Qx Γ (some (.int r)) σ') args s kc ks (fun q : Nat => Γ.2.2.2 ≤ q)) nL pc lv [.int v] σ := by
  cases h
  exact fun H locs ls hP hS hl => W.zret (v := v) X.1 X.2.1 hr (isbit_n hb) (fun t ht _ => ⟨rfl, by rw [ht]; exact hP, hS.F ht⟩) hS.2.2 hd hlk
theorem g_vret (X : Cx Γ p R s m args c cc nL own kc ks) (hd : decode cc pc = .ok (.return_, 1)) (hr : meth.sig.returnType = none) (hlk : meth.locks = false) {r : Int32} {σ' : Sg} (h : some ((0 : Int32), σ) = some (r, σ')) : G Γ p l e R s m args below meth c kc ks (MQ below (Qx Γ none σ') args s kc ks (fun q : Nat => Γ.2.2.2 ≤ q)) nL pc lv [] σ := by
  cases h
  exact fun H locs ls hP hS hl => W.vret X.1 X.2.1 hr (fun t ht _ => ⟨rfl, by rw [ht]; exact hP, hS.F ht⟩) hS.2.2 hd hlk
/-- behind a call: the contents that the contract says -/
theorem g_run {a : Array Value} {res : Option Value} {σ' : Sg} {rest : List Value} (hr : ∀ (H : Heap) (locs : List Loc) (ls : Array Slot), va_P Γ.1 z_cl (wld Γ σ) H → va_S (fun q : Nat => Γ.2.2.2 ≤ q) s.heap H locs → lv_has ls nL lv → va_Run p l e R s m args below meth c H locs kc ks 0 0 (F0 m pc ls st) rest (Qx Γ res σ' a) (fun q : Nat => Γ.2.2.2 ≤ q))
    (k : G Γ p l e R s m args below meth c kc ks Q nL (pc + 3) lv (res.toList ++ rest) σ') : G Γ p l e R s m args below meth c kc ks Q nL pc lv (st) σ := by
  intro H locs ls hP hS hl T hT X
  obtain ⟨v, st₀, t, T', L, h0, X', hL, e1, e2, ⟨hv, hw, hz, hk⟩, stp⟩ := hr H locs ls hP hS hl T hT X
  cases hv
  rw [h0] at hz hk
  obtain ⟨t2, a1, b1⟩ := k T'.heap (locs ++ L) ls (by rw [e1]; exact hw) ⟨Nat.le_trans hS.1 (by rw [e1]; exact hz), fun q h1 h2 => by rw [e1, hk q (Nat.lt_of_lt_of_le h1 hS.1) h2]; exact hS.2.1 q h1 h2, fun q hq => by
      rcases List.mem_append.mp hq with h | h
      · exact hS.2.2 q h
      · exact hL q h⟩ hl T' rfl X'
  exact ⟨t2, stp t2 a1, b1⟩
theorem Pre0.blind {Γ : Gm} {σ : Sg} {As : List Value} : FrameBlind (va_Pc As (Pre0 Γ σ)) := fun a U g mk q => by
  obtain ⟨q0, q1, q2, q3, q4⟩ := q
  exact ⟨q0, q1, okG.moved (u := U) (U := U.calling g mk a) (Vm.Alike.refl U.vm) q2, q3, zN.same (u := U) (U := U.calling g mk a) rfl q4⟩
theorem Pre0.at (X : Cx Γ p R s m args c cc nL own kc ks) {H : Heap} {locs : List Loc} {As : List Value} (hP : va_P Γ.1 z_cl (wld Γ σ) H) (hS : va_S (fun q : Nat => Γ.2.2.2 ≤ q) s.heap H locs) : ∀ U : State, U.heap = H → s.WarmedH U.vm → va_Pc As (Pre0 Γ σ) As.toArray U := fun U hU hW => ⟨rfl, by rw [hU]; exact hP, okG.moved hW.alike X.2.2.2.2.2.1, by rw [hU]; exact Nat.le_trans X.2.2.2.2.2.2.1 hS.1, X.2.2.2.2.2.2.2.2.2.warm hW⟩
/-- what the tables say of a method that is called -/
def cOK (y : MethodName) (bytes : ByteArray) (maxL : Nat) (ret : Option FieldType) (n : Nat) : Prop := Cond.code y bytes maxL ret ∈ lw_gt ∧ Cond.initialized y.cls ∈ lw_gt ∧ (y.cls ≠ "java/lang/invoke/MethodHandle" ∧ y.cls ≠ "java/lang/invoke/VarHandle") ∧ (parseMethodDescriptor y.desc).map (fun d => d.parameters.length) = some n
theorem cOK.len {y : MethodName} {bytes : ByteArray} {maxL n : Nat} {ret : Option FieldType} (h : cOK y bytes maxL ret n) : ∀ sig, parseMethodDescriptor y.desc = some sig → n = sig.parameters.length := fun sig h1 => by
  have h2 := h.2.2.2
  rw [h1] at h2
  exact (Option.some.inj h2).symm
section ZCALL
variable {y : MethodName} {bytes : ByteArray} {maxL n d L idx a ci N : Nat} {ret : Option FieldType} {As rest : List Value} {σ' : Sg} {res : Option Value} {T9 : u_T} {host : String}
theorem g_callV (X : Cx Γ p R s m args c cc nL own kc ks) (hd : decode cc pc = .ok (.invokevirtual idx, 3)) (M : Ctr Γ l y bytes maxL ret d L (.ref (Γ.2.2.1 a) :: As) σ σ' res) (hc : cOK y bytes maxL ret n) (hlk : Cond.methodLink own idx y ∈ lw_gt) (hin : Cond.instanceMethod y ∈ lw_gt) (hse : Cond.selects y.cls y y ∈ lw_gt) (ha : a < 133) (hk : kd a = (0, ci)) (hcl : z_cl[ci]? = some (y.cls, T9, N)) (hR : d + 1 ≤ R.frames ∧ 8 + (maxL + 11) + L ≤ R.locals) (hn : As.length = n) (hst : st = As.reverse ++ .ref (Γ.2.2.1 a) :: rest) (hw : (rest.map fun v => v.category).sum ≤ 8) (k : G Γ p l e R s m args below meth c kc ks Q nL (pc + 3) lv (res.toList ++ rest) σ') : G Γ p l e R s m args below meth c kc ks Q nL pc lv (st) σ := by
  subst hst
  refine g_run (a := (Value.ref (Γ.2.2.1 a) :: As).toArray) (fun H locs ls hP hS hl => ?_) k
  exact va_runV (Ts := lw_gt) (C := y.cls) ⟨X.1, X.2.1, X.2.2.1, X.2.2.2.1, X.2.2.2.2.1⟩ M ⟨⟨rfl, rfl, hR.1, hR.2, pay_in X.2.2.2.2.1 (lw_goodIn hc.1), List.mem_cons_self, X.2.2.2.2.1 _ hc.1, X.2.2.2.2.1 _ hc.2.1, hc.2.2.1, hc.len, X.2.2.2.2.1 _ hlk⟩, X.2.2.2.2.1 _ hin, X.2.2.2.2.1 _ hse⟩ ⟨Pre0.blind, va_recv X.2.2.2.2.2.1.1 hP hcl (wld_0 ha hk), Pre0.at X hP hS⟩ rfl hn hl.1 rfl (by show 2 * 0 + _ ≤ 8; omega) hd ⟨X.2.2.2.2.2.2.2.1, X.2.2.2.2.2.2.2.2.1⟩
theorem g_callS (X : Cx Γ p R s m args c cc nL own kc ks) (hd : decode cc pc = .ok (.invokestatic idx, 3)) (M : Ctr Γ l y bytes maxL ret d L As σ σ' res) (hc : cOK y bytes maxL ret n) (hlk : Cond.methodLink own idx y ∈ lw_gt) (hin : Cond.static y ∈ lw_gt) (hR : d + 1 ≤ R.frames ∧ 8 + (maxL + 11) + L ≤ R.locals) (hn : As.length = n) (hst : st = As.reverse ++ rest) (hw : (rest.map fun v => v.category).sum ≤ 8) (k : G Γ p l e R s m args below meth c kc ks Q nL (pc + 3) lv (res.toList ++ rest) σ') : G Γ p l e R s m args below meth c kc ks Q nL pc lv (st) σ := by
  subst hst
  refine g_run (a := As.toArray) (fun H locs ls hP hS hl => ?_) k
  exact va_runS (Ts := lw_gt) ⟨X.1, X.2.1, X.2.2.1, X.2.2.2.1, X.2.2.2.2.1⟩ M ⟨⟨rfl, rfl, hR.1, hR.2, pay_in X.2.2.2.2.1 (lw_goodIn hc.1), List.mem_cons_self, X.2.2.2.2.1 _ hc.1, X.2.2.2.2.1 _ hc.2.1, hc.2.2.1, hc.len, X.2.2.2.2.1 _ hlk⟩, X.2.2.2.2.1 _ hin⟩ ⟨Pre0.blind, Pre0.at X hP hS⟩ rfl hn hl.1 rfl (by show 2 * 0 + _ ≤ 8; omega) hd ⟨X.2.2.2.2.2.2.2.1, X.2.2.2.2.2.2.2.2.1⟩
theorem g_callSN (X : Cx Γ p R s m args c cc nL own kc ks) (hd : decode cc pc = .ok (.invokestatic idx, 3)) (M : Ctr Γ l y bytes maxL ret d L As σ σ' res) (hc : cOK y bytes maxL ret n) (hlk : (own, idx, y) ∈ z_nests) (hin : Cond.static y ∈ lw_gt) (hR : d + 1 ≤ R.frames ∧ 8 + (maxL + 11) + L ≤ R.locals) (hn : As.length = n) (hst : st = As.reverse ++ rest) (hw : (rest.map fun v => v.category).sum ≤ 8) (k : G Γ p l e R s m args below meth c kc ks Q nL (pc + 3) lv (res.toList ++ rest) σ') : G Γ p l e R s m args below meth c kc ks Q nL pc lv (st) σ := by
  subst hst
  refine g_run (a := As.toArray) (fun H locs ls hP hS hl => ?_) k
  exact va_runSN (host := "CaptionTallies") (Ts := lw_gt) ⟨X.1, X.2.1, X.2.2.1, X.2.2.2.1, X.2.2.2.2.1⟩ M ⟨⟨⟨rfl, rfl, hR.1, hR.2, pay_in X.2.2.2.2.1 (lw_goodIn hc.1), List.mem_cons_self⟩, X.2.2.2.2.1 _ hc.1, X.2.2.2.2.1 _ hc.2.1, hc.2.2.1, hc.len, va_Nw.use rfl (X.2.2.2.2.2.2.2.2.2 _ hlk)⟩, X.2.2.2.2.1 _ hin, trivial⟩ ⟨Pre0.blind, Pre0.at X hP hS⟩ rfl hn hl.1 rfl (by show 2 * 0 + _ ≤ 8; omega) hd ⟨X.2.2.2.2.2.2.2.1, X.2.2.2.2.2.2.2.2.1⟩
end ZCALL
theorem g_mmax (X : Cx Γ p R s m args c cc nL own kc ks) {idx : Nat} {x y : Int32} (hd : decode cc pc = .ok (.invokestatic idx, 3)) (hlk : Cond.methodLink own idx Lib.Math.max.name ∈ lw_gt) (hst : Cond.static Lib.Math.max.name ∈ lw_gt) (hini : Cond.initialized "java/lang/Math" ∈ lw_gt) (hcd : Cond.code Lib.Math.max.name Lib.Math.max.code 2 (some .int) ∈ lw_gt) (hR : 1 ≤ R.frames ∧ (st.map fun v => v.category).sum + 13 ≤ R.locals) (k : G Γ p l e R s m args below meth c kc ks Q nL (pc + 3) lv (.int (imax x y) :: st) σ) : G Γ p l e R s m args below meth c kc ks Q nL pc lv (.int y :: .int x :: st) σ :=
  fun H locs ls hP hS hl => va_mmax X.1 X.2.1 (X.2.2.1.trans hl.1.symm) X.2.2.2.1 (X.2.2.2.2.1 _ hlk) (X.2.2.2.2.1 _ hst) (X.2.2.2.2.1 _ hini) (X.2.2.2.2.1 _ hcd) hR.1 hR.2 X.2.2.2.2.2.2.2.1 X.2.2.2.2.2.2.2.2.1 hd (k H locs ls hP hS hl)
theorem g_mmin (X : Cx Γ p R s m args c cc nL own kc ks) {idx : Nat} {x y : Int32} (hd : decode cc pc = .ok (.invokestatic idx, 3)) (hlk : Cond.methodLink own idx Lib.Math.min.name ∈ lw_gt) (hst : Cond.static Lib.Math.min.name ∈ lw_gt) (hini : Cond.initialized "java/lang/Math" ∈ lw_gt) (hcd : Cond.code Lib.Math.min.name Lib.Math.min.code 2 (some .int) ∈ lw_gt) (hR : 1 ≤ R.frames ∧ (st.map fun v => v.category).sum + 13 ≤ R.locals) (k : G Γ p l e R s m args below meth c kc ks Q nL (pc + 3) lv (.int (imin x y) :: st) σ) : G Γ p l e R s m args below meth c kc ks Q nL pc lv (.int y :: .int x :: st) σ :=
  fun H locs ls hP hS hl => va_mmin X.1 X.2.1 (X.2.2.1.trans hl.1.symm) X.2.2.2.1 (X.2.2.2.2.1 _ hlk) (X.2.2.2.2.1 _ hst) (X.2.2.2.2.1 _ hini) (X.2.2.2.2.1 _ hcd) hR.1 hR.2 X.2.2.2.2.2.2.2.1 X.2.2.2.2.2.2.2.2.1 hd (k H locs ls hP hS hl)
theorem g_mabs (X : Cx Γ p R s m args c cc nL own kc ks) {idx : Nat} {x : Int32} (hd : decode cc pc = .ok (.invokestatic idx, 3)) (hlk : Cond.methodLink own idx Lib.Math.abs.name ∈ lw_gt) (hst : Cond.static Lib.Math.abs.name ∈ lw_gt) (hini : Cond.initialized "java/lang/Math" ∈ lw_gt) (hcd : Cond.code Lib.Math.abs.name Lib.Math.abs.code 1 (some .int) ∈ lw_gt) (hR : 1 ≤ R.frames ∧ (st.map fun v => v.category).sum + 13 ≤ R.locals) (k : G Γ p l e R s m args below meth c kc ks Q nL (pc + 3) lv (.int (iabs x) :: st) σ) : G Γ p l e R s m args below meth c kc ks Q nL pc lv (.int x :: st) σ :=
  fun H locs ls hP hS hl => va_mabs X.1 X.2.1 (X.2.2.1.trans hl.1.symm) X.2.2.2.1 (X.2.2.2.2.1 _ hlk) (X.2.2.2.2.1 _ hst) (X.2.2.2.2.1 _ hini) (X.2.2.2.2.1 _ hcd) hR.1 hR.2 X.2.2.2.2.2.2.2.1 X.2.2.2.2.2.2.2.2.1 hd (k H locs ls hP hS hl)
theorem g_copyI (X : Cx Γ p R s m args c cc nL own kc ks) {idx a b na nb : Nat} {n : Int32} (hd : decode cc pc = .ok (.invokestatic idx, 3)) (hlk : Cond.methodLink own idx arraycopyName ∈ lw_gt) (hnat : Cond.native arraycopyName ∈ lw_gt) (hst : Cond.static arraycopyName ∈ lw_gt) (hini : Cond.initialized "java/lang/System" ∈ lw_gt) (hka : kd a = (1, na)) (hkb : kd b = (1, nb)) (hn : ¬ n < 0) (h1 : n.toNatClampNeg ≤ na) (h2 : n.toNatClampNeg ≤ nb) (hR : 1 ≤ R.frames ∧ (st.map fun v => v.category).sum + (nativeFrameWords "java/lang/System" "arraycopy" 5 + 11) ≤ R.locals) {σ1 : Sg} (he : σ1 = upc σ b (va_cpy' (σ a) (σ b) n.toNatClampNeg)) (k : G Γ p l e R s m args below meth c kc ks Q nL (pc + 3) lv (st) σ1) : G Γ p l e R s m args below meth c kc ks Q nL pc lv (.int n :: .int 0 :: .ref (Γ.2.2.1 b) :: .int 0 :: .ref (Γ.2.2.1 a) :: st) σ :=
  fun H locs ls hP hS hl => by
    subst he
    exact va_copyi X.1 X.2.1 (X.2.2.1.trans hl.1.symm) X.2.2.2.1 (X.2.2.2.2.1 _ hlk) (X.2.2.2.2.1 _ hnat) (X.2.2.2.2.1 _ hst) (X.2.2.2.2.1 _ hini) X.2.2.2.2.2.1.1 hP (wld_D X.2.2.2.2.2.1 σ) hS a b 0 0 (wld_1 hka) (wld_1 hkb) rfl rfl rfl (by decide) (by decide) hn (by show 0 + _ ≤ _; omega) (by show 0 + _ ≤ _; omega) (fun i hi => by show fits _ (.int (σ a (0 + i))) = true; rw [Nat.zero_add]; exact (fun _ _ => rfl) i hi) hR.1 hR.2 hd (fun H1 locs1 hP1 _ hS1 => k H1 locs1 ls (by rw [wld_set Γ σ (kd_lt hkb) (va_cpy' (σ a) (σ b) n.toNatClampNeg) (by rw [z_cell_1 hkb, cpy_eq]; rfl)] at hP1; exact hP1) hS1 hl)
theorem g_copyZ (X : Cx Γ p R s m args c cc nL own kc ks) {idx a b na nb : Nat} {n : Int32} (hd : decode cc pc = .ok (.invokestatic idx, 3)) (hlk : Cond.methodLink own idx arraycopyName ∈ lw_gt) (hnat : Cond.native arraycopyName ∈ lw_gt) (hst : Cond.static arraycopyName ∈ lw_gt) (hini : Cond.initialized "java/lang/System" ∈ lw_gt) (hka : kd a = (2, na)) (hkb : kd b = (2, nb)) (hn : ¬ n < 0) (h1 : n.toNatClampNeg ≤ na) (h2 : n.toNatClampNeg ≤ nb) (hbt : bits (σ a) n.toNatClampNeg = true) (hR : 1 ≤ R.frames ∧ (st.map fun v => v.category).sum + (nativeFrameWords "java/lang/System" "arraycopy" 5 + 11) ≤ R.locals) {σ1 : Sg} (he : σ1 = upc σ b (va_cpy' (σ a) (σ b) n.toNatClampNeg)) (k : G Γ p l e R s m args below meth c kc ks Q nL (pc + 3) lv (st) σ1) : G Γ p l e R s m args below meth c kc ks Q nL pc lv (.int n :: .int 0 :: .ref (Γ.2.2.1 b) :: .int 0 :: .ref (Γ.2.2.1 a) :: st) σ :=
  fun H locs ls hP hS hl => by
    subst he
    exact va_copyi X.1 X.2.1 (X.2.2.1.trans hl.1.symm) X.2.2.2.1 (X.2.2.2.2.1 _ hlk) (X.2.2.2.2.1 _ hnat) (X.2.2.2.2.1 _ hst) (X.2.2.2.2.1 _ hini) X.2.2.2.2.2.1.1 hP (wld_D X.2.2.2.2.2.1 σ) hS a b 1 1 (wld_2 hka) (wld_2 hkb) rfl rfl rfl (by decide) (by decide) hn (by show 0 + _ ≤ _; omega) (by show 0 + _ ≤ _; omega) (fun i hi => by show fits _ (.int (σ a (0 + i))) = true; rw [Nat.zero_add]; exact (bits_fit hbt) i hi) hR.1 hR.2 hd (fun H1 locs1 hP1 _ hS1 => k H1 locs1 ls (by rw [wld_set Γ σ (kd_lt hkb) (va_cpy' (σ a) (σ b) n.toNatClampNeg) (by rw [z_cell_2 hkb, cpy_eq]; rfl)] at hP1; exact hP1) hS1 hl)
theorem g_top {x v : Int32} (h : v = x) (k : G Γ p l e R s m args below meth c kc ks Q nL pc lv (.int v :: st) σ) : G Γ p l e R s m args below meth c kc ks Q nL pc lv (.int x :: st) σ := h ▸ k
theorem g_topr {x v : Nat} (h : v = x) (k : G Γ p l e R s m args below meth c kc ks Q nL pc lv (.ref (Γ.2.2.1 v) :: st) σ) : G Γ p l e R s m args below meth c kc ks Q nL pc lv (.ref (Γ.2.2.1 x) :: st) σ := h ▸ k
theorem kd_0 : kd 0 = (0, 2) := by decide
theorem kd_1 : kd 1 = (2, 20) := by decide
theorem kd_2 : kd 2 = (1, 20) := by decide
theorem kd_3 : kd 3 = (1, 1200) := by decide
theorem kd_4 : kd 4 = (1, 20) := by decide
theorem kd_5 : kd 5 = (1, 1200) := by decide
theorem kd_6 : kd 6 = (1, 20) := by decide
theorem kd_7 : kd 7 = (1, 20) := by decide
theorem kd_8 : kd 8 = (2, 400) := by decide
theorem kd_9 : kd 9 = (1, 36) := by decide
theorem kd_10 : kd 10 = (1, 60) := by decide
theorem kd_11 : kd 11 = (1, 3) := by decide
theorem kd_12 : kd 12 = (1, 5) := by decide
theorem kd_13 : kd 13 = (0, 2) := by decide
theorem kd_14 : kd 14 = (2, 20) := by decide
theorem kd_15 : kd 15 = (1, 20) := by decide
theorem kd_16 : kd 16 = (1, 1200) := by decide
theorem kd_17 : kd 17 = (1, 20) := by decide
theorem kd_18 : kd 18 = (1, 1200) := by decide
theorem kd_19 : kd 19 = (1, 20) := by decide
theorem kd_20 : kd 20 = (1, 20) := by decide
theorem kd_21 : kd 21 = (2, 400) := by decide
theorem kd_22 : kd 22 = (1, 36) := by decide
theorem kd_23 : kd 23 = (1, 60) := by decide
theorem kd_24 : kd 24 = (1, 3) := by decide
theorem kd_25 : kd 25 = (1, 5) := by decide
theorem kd_26 : kd 26 = (0, 2) := by decide
theorem kd_27 : kd 27 = (2, 20) := by decide
theorem kd_28 : kd 28 = (1, 20) := by decide
theorem kd_29 : kd 29 = (1, 1200) := by decide
theorem kd_30 : kd 30 = (1, 20) := by decide
theorem kd_31 : kd 31 = (1, 1200) := by decide
theorem kd_32 : kd 32 = (1, 20) := by decide
theorem kd_33 : kd 33 = (1, 20) := by decide
theorem kd_34 : kd 34 = (2, 400) := by decide
theorem kd_35 : kd 35 = (1, 36) := by decide
theorem kd_36 : kd 36 = (1, 60) := by decide
theorem kd_37 : kd 37 = (1, 3) := by decide
theorem kd_38 : kd 38 = (1, 5) := by decide
theorem kd_39 : kd 39 = (0, 2) := by decide
theorem kd_40 : kd 40 = (2, 20) := by decide
theorem kd_41 : kd 41 = (1, 20) := by decide
theorem kd_42 : kd 42 = (1, 1200) := by decide
theorem kd_43 : kd 43 = (1, 20) := by decide
theorem kd_44 : kd 44 = (1, 1200) := by decide
theorem kd_45 : kd 45 = (1, 20) := by decide
theorem kd_46 : kd 46 = (1, 20) := by decide
theorem kd_47 : kd 47 = (2, 400) := by decide
theorem kd_48 : kd 48 = (1, 36) := by decide
theorem kd_49 : kd 49 = (1, 60) := by decide
theorem kd_50 : kd 50 = (1, 3) := by decide
theorem kd_51 : kd 51 = (1, 5) := by decide
theorem kd_52 : kd 52 = (0, 2) := by decide
theorem kd_53 : kd 53 = (2, 20) := by decide
theorem kd_54 : kd 54 = (1, 20) := by decide
theorem kd_55 : kd 55 = (1, 1200) := by decide
theorem kd_56 : kd 56 = (1, 20) := by decide
theorem kd_57 : kd 57 = (1, 1200) := by decide
theorem kd_58 : kd 58 = (1, 20) := by decide
theorem kd_59 : kd 59 = (1, 20) := by decide
theorem kd_60 : kd 60 = (2, 400) := by decide
theorem kd_61 : kd 61 = (1, 36) := by decide
theorem kd_62 : kd 62 = (1, 60) := by decide
theorem kd_63 : kd 63 = (1, 3) := by decide
theorem kd_64 : kd 64 = (1, 5) := by decide
theorem kd_65 : kd 65 = (0, 2) := by decide
theorem kd_66 : kd 66 = (2, 20) := by decide
theorem kd_67 : kd 67 = (1, 20) := by decide
theorem kd_68 : kd 68 = (1, 1200) := by decide
theorem kd_69 : kd 69 = (1, 20) := by decide
theorem kd_70 : kd 70 = (1, 1200) := by decide
theorem kd_71 : kd 71 = (1, 20) := by decide
theorem kd_72 : kd 72 = (1, 20) := by decide
theorem kd_73 : kd 73 = (2, 400) := by decide
theorem kd_74 : kd 74 = (1, 36) := by decide
theorem kd_75 : kd 75 = (1, 60) := by decide
theorem kd_76 : kd 76 = (1, 3) := by decide
theorem kd_77 : kd 77 = (1, 5) := by decide
theorem kd_78 : kd 78 = (0, 1) := by decide
theorem kd_79 : kd 79 = (1, 60) := by decide
theorem kd_80 : kd 80 = (0, 3) := by decide
theorem kd_81 : kd 81 = (3, 4) := by decide
theorem kd_82 : kd 82 = (0, 4) := by decide
theorem kd_83 : kd 83 = (1, 20) := by decide
theorem kd_84 : kd 84 = (1, 20) := by decide
theorem kd_85 : kd 85 = (0, 5) := by decide
theorem kd_86 : kd 86 = (1, 36) := by decide
theorem kd_87 : kd 87 = (1, 20) := by decide
theorem kd_88 : kd 88 = (1, 20) := by decide
theorem kd_89 : kd 89 = (0, 6) := by decide
theorem kd_90 : kd 90 = (1, 60) := by decide
theorem kd_91 : kd 91 = (1, 60) := by decide
theorem kd_92 : kd 92 = (1, 20) := by decide
theorem kd_93 : kd 93 = (0, 7) := by decide
theorem kd_94 : kd 94 = (2, 20) := by decide
theorem kd_95 : kd 95 = (1, 12) := by decide
theorem kd_96 : kd 96 = (1, 20) := by decide
theorem kd_97 : kd 97 = (1, 20) := by decide
theorem kd_98 : kd 98 = (1, 20) := by decide
theorem kd_99 : kd 99 = (1, 20) := by decide
theorem kd_100 : kd 100 = (0, 8) := by decide
theorem kd_101 : kd 101 = (2, 20) := by decide
theorem kd_102 : kd 102 = (1, 20) := by decide
theorem kd_103 : kd 103 = (1, 20) := by decide
theorem kd_104 : kd 104 = (1, 20) := by decide
theorem kd_105 : kd 105 = (0, 9) := by decide
theorem kd_106 : kd 106 = (1, 20) := by decide
theorem kd_107 : kd 107 = (1, 20) := by decide
theorem kd_108 : kd 108 = (0, 10) := by decide
theorem kd_109 : kd 109 = (1, 61) := by decide
theorem kd_110 : kd 110 = (1, 400) := by decide
theorem kd_111 : kd 111 = (0, 0) := by decide
theorem kd_112 : kd 112 = (0, 11) := by decide
theorem kd_113 : kd 113 = (1, 1385) := by decide
theorem kd_114 : kd 114 = (1, 1385) := by decide
theorem kd_115 : kd 115 = (1, 5540) := by decide
theorem kd_116 : kd 116 = (1, 60) := by decide
theorem kd_117 : kd 117 = (1, 20) := by decide
theorem kd_118 : kd 118 = (1, 20) := by decide
theorem kd_119 : kd 119 = (1, 20) := by decide
theorem kd_120 : kd 120 = (1, 20) := by decide
theorem kd_121 : kd 121 = (1, 20) := by decide
theorem kd_122 : kd 122 = (1, 20) := by decide
theorem kd_123 : kd 123 = (1, 20) := by decide
theorem kd_124 : kd 124 = (1, 20) := by decide
theorem kd_125 : kd 125 = (1, 20) := by decide
theorem kd_126 : kd 126 = (1, 20) := by decide
theorem kd_127 : kd 127 = (1, 20) := by decide
theorem kd_128 : kd 128 = (1, 36) := by decide
theorem kd_129 : kd 129 = (1, 1200) := by decide
theorem kd_130 : kd 130 = (1, 20) := by decide
theorem kd_131 : kd 131 = (1, 61) := by decide
theorem kd_132 : kd 132 = (1, 61) := by decide
theorem kd_St0 {a : Nat} (h : isSt a = true) : kd (a + 0) = (0, 2) := by
  simp only [isSt, Bool.and_eq_true, decide_eq_true_eq, beq_iff_eq] at h
  unfold kd
  rw [if_pos (by omega), show (a + 0) % 13 = 0 by omega]
  rfl
theorem kd_St1 {a : Nat} (h : isSt a = true) : kd (a + 1) = (2, 20) := by
  simp only [isSt, Bool.and_eq_true, decide_eq_true_eq, beq_iff_eq] at h
  unfold kd
  rw [if_pos (by omega), show (a + 1) % 13 = 1 by omega]
  rfl
theorem kd_St2 {a : Nat} (h : isSt a = true) : kd (a + 2) = (1, 20) := by
  simp only [isSt, Bool.and_eq_true, decide_eq_true_eq, beq_iff_eq] at h
  unfold kd
  rw [if_pos (by omega), show (a + 2) % 13 = 2 by omega]
  rfl
theorem kd_St3 {a : Nat} (h : isSt a = true) : kd (a + 3) = (1, 1200) := by
  simp only [isSt, Bool.and_eq_true, decide_eq_true_eq, beq_iff_eq] at h
  unfold kd
  rw [if_pos (by omega), show (a + 3) % 13 = 3 by omega]
  rfl
theorem kd_St4 {a : Nat} (h : isSt a = true) : kd (a + 4) = (1, 20) := by
  simp only [isSt, Bool.and_eq_true, decide_eq_true_eq, beq_iff_eq] at h
  unfold kd
  rw [if_pos (by omega), show (a + 4) % 13 = 4 by omega]
  rfl
theorem kd_St5 {a : Nat} (h : isSt a = true) : kd (a + 5) = (1, 1200) := by
  simp only [isSt, Bool.and_eq_true, decide_eq_true_eq, beq_iff_eq] at h
  unfold kd
  rw [if_pos (by omega), show (a + 5) % 13 = 5 by omega]
  rfl
theorem kd_St6 {a : Nat} (h : isSt a = true) : kd (a + 6) = (1, 20) := by
  simp only [isSt, Bool.and_eq_true, decide_eq_true_eq, beq_iff_eq] at h
  unfold kd
  rw [if_pos (by omega), show (a + 6) % 13 = 6 by omega]
  rfl
theorem kd_St7 {a : Nat} (h : isSt a = true) : kd (a + 7) = (1, 20) := by
  simp only [isSt, Bool.and_eq_true, decide_eq_true_eq, beq_iff_eq] at h
  unfold kd
  rw [if_pos (by omega), show (a + 7) % 13 = 7 by omega]
  rfl
theorem kd_St8 {a : Nat} (h : isSt a = true) : kd (a + 8) = (2, 400) := by
  simp only [isSt, Bool.and_eq_true, decide_eq_true_eq, beq_iff_eq] at h
  unfold kd
  rw [if_pos (by omega), show (a + 8) % 13 = 8 by omega]
  rfl
theorem kd_St9 {a : Nat} (h : isSt a = true) : kd (a + 9) = (1, 36) := by
  simp only [isSt, Bool.and_eq_true, decide_eq_true_eq, beq_iff_eq] at h
  unfold kd
  rw [if_pos (by omega), show (a + 9) % 13 = 9 by omega]
  rfl
theorem kd_St10 {a : Nat} (h : isSt a = true) : kd (a + 10) = (1, 60) := by
  simp only [isSt, Bool.and_eq_true, decide_eq_true_eq, beq_iff_eq] at h
  unfold kd
  rw [if_pos (by omega), show (a + 10) % 13 = 10 by omega]
  rfl
theorem kd_St11 {a : Nat} (h : isSt a = true) : kd (a + 11) = (1, 3) := by
  simp only [isSt, Bool.and_eq_true, decide_eq_true_eq, beq_iff_eq] at h
  unfold kd
  rw [if_pos (by omega), show (a + 11) % 13 = 11 by omega]
  rfl
theorem kd_St12 {a : Nat} (h : isSt a = true) : kd (a + 12) = (1, 5) := by
  simp only [isSt, Bool.and_eq_true, decide_eq_true_eq, beq_iff_eq] at h
  unfold kd
  rw [if_pos (by omega), show (a + 12) % 13 = 12 by omega]
  rfl
end ZROWS
