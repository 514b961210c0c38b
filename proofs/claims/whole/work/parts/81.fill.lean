/-! Arrays.fill on a row alone, and its call -/
section VFILL
variable {D : va_G} {T3 : C3} {A : Nat → Prop} {p : Program} {l : Launch} {e : Env} {s : State} {m : MethodId} {args : Array Value} {below : List Frame} {meth : Method} {c : Code}
theorem w_fillI {n : Nat} (hn : n < 2147483648) {v : Int32} {a : Nat} (X : XI D T3 A p s m args c c_AR_fill 4 "java/util/Arrays") (hr : meth.sig.returnType = none) (hlk : meth.locks = false) : ∀ (r k : Nat), k + r = n → ∀ g : Nat → Int32, (∀ j, j < k → g j = v) →
    VI D A p l e (z_rm 0 0) s m args below meth c 0 0 (MQ below (va_Qv (fun _ : Unit => True) (fun _ t => va_P D z_cl [(a, .inl (T3.1, n, .inl (fun _ => v)))] t.heap ∧ va_D A [(a, .inl (T3.1, n, .inl (fun _ => v)))]) A) args s 0 0 A) 4 5 [(2, .int (nI k)), (3, .int (nI n)), (0, .ref a), (1, .int v)] [] [(a, .inl (T3.1, n, .inl g))] := by
  intro r
  induction r with
  | zero =>
    intro k hk g hg
    refine v_iload_n X d_AR_fill_5 0 rfl ?_
    refine v_iload_n X d_AR_fill_6 1 rfl ?_
    refine v_ic_ge X d_AR_fill_7 20 (by decide) (fun q1 => ?_) (fun q1 => absurd (nI_le (by omega) (by omega)) q1)
    intro H locs ls hP hD hS hl
    refine W.vret X.1 X.2.1 hr (fun t ht hW => ⟨⟨(), rfl, trivial, ?_, ?_⟩, hS.F ht⟩) hS.2.2 d_AR_fill_20 hlk
    · rw [ht]
      intro i q hq
      have h1 := hP 0 _ rfl
      cases i with
      | succ i => simp at hq
      | zero =>
        cases hq
        show H[a]? = some (vp_cell T3.1 (n, .inl (fun _ => v)))
        rw [← v_ext (f := g) (fun j hj => hg j (by omega))]
        exact h1
    · exact hD.set (p := 0) (e0 := .inl (T3.1, n, .inl g)) rfl
  | succ r ih =>
    intro k hk g hg
    refine v_iload_n X d_AR_fill_5 0 rfl ?_
    refine v_iload_n X d_AR_fill_6 1 rfl ?_
    refine v_ic_ge X d_AR_fill_7 20 (by decide) (fun q1 => absurd q1 (nI_ge (by omega) (by omega))) (fun q1 => ?_)
    refine v_aload_n X d_AR_fill_10 2 rfl ?_
    refine v_iload_n X d_AR_fill_11 0 rfl ?_
    refine v_iload_n X d_AR_fill_12 3 rfl ?_
    refine v_iast X d_AR_fill_13 0 rfl (nI_clamp (by omega)) (nI_pos (by omega)) (by omega) rfl ?_
    refine v_iinc X d_AR_fill_14 (j := 0) (v := nI (k + 1)) (lv' := [(2, .int (nI (k + 1))), (3, .int (nI n)), (0, .ref a), (1, .int v)]) rfl (nI_add k 1) (Nat.le_of_ble_eq_true rfl) rfl ?_
    refine v_goto X d_AR_fill_17 5 (by decide) ?_
    refine ih (k + 1) (by omega) _ (fun j hj => ?_)
    by_cases h : j = k
    · subst h; simp [upd]
    · simp only [upd, if_neg h]; exact hg j (by omega)
theorem c_fillI {n : Nat} (hn : n < 2147483648) (f : Nat → Int32) (v : Int32) (a sz : Nat) : Met l y_AR_fill (Cond.code y_AR_fill c_AR_fill 4 none :: lw_gt) (z_rm 0 0) (va_Pc [.ref a, .int v] (fun U => U.heap.size = sz ∧ va_P D z_cl [(a, .inl (T3.1, n, .inl f))] U.heap ∧ va_K D z_cl (tyI T3) U ∧ va_AO N_ST U ∧ va_D (fun _ => True) [(a, .inl (T3.1, n, .inl f))]))
    (va_Qv (fun _ : Unit => True) (fun _ t => va_P D z_cl [(a, .inl (T3.1, n, .inl (fun _ => v)))] t.heap ∧ va_D (va_A [(a, .inl (T3.1, n, .inl f))] sz) [(a, .inl (T3.1, n, .inl (fun _ => v)))]) (va_A [(a, .inl (T3.1, n, .inl f))] sz)) 0 0 (va_A [(a, .inl (T3.1, n, .inl f))] sz) := by
  refine Met.ofW (cc := c_AR_fill) (maxL := 4) (ret := none) (by decide +kernel) rfl ?_
  intro p e s m args below meth c s₁ B hml hv
  obtain ⟨rfl, hsz, hP, hK, hO, hD0⟩ := hv
  have hts := atoms_spec (ws := Cond.code y_AR_fill c_AR_fill 4 none :: lw_gt) B.pre
  subst hsz
  have hD := hD0.self (sz := s.heap.size)
  have X : XI D T3 (va_A [(a, .inl (T3.1, n, .inl f))] s.heap.size) p s m [Value.ref a, .int v].toArray c c_AR_fill 4 "java/util/Arrays" := ⟨B.exec, B.bytes, hml, findClass_of_methodNamed B.named, fun w hw => hts w (List.mem_cons_of_mem _ hw), hK, fun q h => Or.inr h, hO⟩
  have k : VI D (va_A [(a, .inl (T3.1, n, .inl f))] s.heap.size) p l e (z_rm 0 0) s m [Value.ref a, .int v].toArray below meth c 0 0 (MQ below (va_Qv (fun _ : Unit => True) (fun _ t => va_P D z_cl [(a, .inl (T3.1, n, .inl (fun _ => v)))] t.heap ∧ va_D (va_A [(a, .inl (T3.1, n, .inl f))] s.heap.size) [(a, .inl (T3.1, n, .inl (fun _ => v)))]) (va_A [(a, .inl (T3.1, n, .inl f))] s.heap.size)) [Value.ref a, .int v].toArray s 0 0 (va_A [(a, .inl (T3.1, n, .inl f))] s.heap.size)) 4 0 [(0, .ref a), (1, .int v)] [] [(a, .inl (T3.1, n, .inl f))] := by
    refine v_iconst X d_AR_fill_0 (v := nI 0) rfl ?_
    refine v_istore_n X d_AR_fill_1 rfl (lv' := [(2, .int (nI 0)), (0, .ref a), (1, .int v)]) (Nat.le_of_ble_eq_true rfl) rfl ?_
    refine v_aload_n X d_AR_fill_2 1 rfl ?_
    refine fun H locs ls hP hD hS hl => va_alen (v := nI n) X.1 X.2.1 X.2.2.2.2.2.1 hP 0 0 rfl rfl rfl d_AR_fill_3 ((?_ : VI D (va_A [(a, .inl (T3.1, n, .inl f))] s.heap.size) p l e (z_rm 0 0) s m [Value.ref a, .int v].toArray below meth c 0 0 _ 4 4 [(2, .int (nI 0)), (0, .ref a), (1, .int v)] [.int (nI n)] [(a, .inl (T3.1, n, .inl f))]) H locs ls hP hD hS hl)
    refine v_istore_n X d_AR_fill_4 rfl (lv' := [(3, .int (nI n)), (2, .int (nI 0)), (0, .ref a), (1, .int v)]) (Nat.le_of_ble_eq_true rfl) rfl ?_
    refine v_sub [1, 0, 2, 3] rfl ?_
    exact w_fillI hn X B.returns B.notSynchronized n 0 (by omega) f (fun j hj => absurd hj (Nat.not_lt_zero _))
  rw [lg_entry_eq]
  exact k s.heap [] _ hP hD va_S.rf (lv_entry [.ref a, .int v] (n := 4) (Nat.le_of_ble_eq_true rfl))
end VFILL
section VFILL2
variable {D : va_G} {T3 : C3} {A : Nat → Prop} {p : Program} {l : Launch} {e : Env} {R : Room} {s : State} {m : MethodId} {args : Array Value} {below : List Frame} {meth : Method} {c : Code} {kc ks : Nat} {Q : State → Prop} {nL : Nat} {cc : ByteArray} {own : String} {pc : Nat} {lv : List (Nat × Value)} {st : List Value} {ws : va_W}
theorem v_fill (X : XI D T3 A p s m args c cc nL own) {idx a n : Nat} {f : Nat → Int32} {v : Int32} (hd : decode cc pc = .ok (.invokestatic idx, 3)) (hlk : Cond.methodLink own idx y_AR_fill ∈ lw_gt) (hn : n < 2147483648) (hR : 0 + 1 ≤ R.frames ∧ 8 + (4 + 11) + 0 ≤ R.locals) (hk : kc + 0 ≤ R.cells ∧ ks + 0 ≤ R.slots) (hw : (st.map fun v => v.category).sum ≤ 8) (j : Nat) (hj : ws[j]? = some (a, .inl (T3.1, n, .inl f))) (isR : List Nat) {wr ws1 : va_W} (hRr : isR.map (fun i => ws[i]?) = wr.map some) (hnd : va_nd isR = true) (hdis : j ∉ isR) (h1 : wr ++ [(a, .inl (T3.1, n, .inl (fun _ => v)))] = ws1) (k : VI D A p l e R s m args below meth c kc ks Q nL (pc + 3) lv st ws1) : VI D A p l e R s m args below meth c kc ks Q nL pc lv (.int v :: .ref a :: st) ws := by
  intro H locs ls hP hD hS hl
  have hC : [j].map (fun i => ws[i]?) = [((a, .inl (T3.1, n, .inl f)) : Nat × va_E)].map some := by simp [hj]
  have hPc : va_P D z_cl [(a, .inl (T3.1, n, .inl f))] H := hP.sub [j] (by simp [hj])
  have hDc : va_D A [(a, .inl (T3.1, n, .inl f))] := hD.sub [j] (by simp [va_nd]) hC
  have hFc := va_free (wc := [(a, .inl (T3.1, n, .inl f))]) hD hS X.2.2.2.2.2.2.1 [j] hC
  have hc := co_AR_fill
  refine va_callv (va_runS (Ts := lw_gt) (As := [.ref a, .int v]) (rest := st) ⟨X.1, X.2.1, X.2.2.1, X.2.2.2.1, X.2.2.2.2.1⟩ (c_fillI (D := D) (T3 := T3) (l := l) hn f v a H.size) ⟨⟨rfl, rfl, hR.1, hR.2, pay_in X.2.2.2.2.1 (lw_goodIn hc.1), List.mem_cons_self, X.2.2.2.2.1 _ hc.1, X.2.2.2.2.1 _ hc.2.1, hc.2.2.1, hc.len, X.2.2.2.2.1 _ hlk⟩, X.2.2.2.2.1 _ wn_AR_fill⟩ ⟨fun a U g mk z => by obtain ⟨z0, z1, zP, zK, zO, zD⟩ := z; exact ⟨z0, z1, zP, va_K.moved (u := U) (U := U.calling g mk a) (Vm.Alike.refl U.vm) zK, va_AO.moved (u := U) (U := U.calling g mk a) (Vm.Alike.refl U.vm) zO, zD⟩, fun U hU hW => ⟨rfl, by rw [hU], by rw [hU]; exact hPc, va_K.moved hW.alike X.2.2.2.2.2.1, va_AO.moved hW.alike X.2.2.2.2.2.2.2, hDc.weaken (fun _ _ _ _ => trivial)⟩⟩ rfl rfl hl.1 rfl (by show 2 * 0 + _ ≤ 8; omega) hd hk) hS (fun q _ h => hFc q h) hFc (fun u t H1 locs ht hvm hw hB hz1 hk1 hS => ?_)
  obtain ⟨hP1, hD1⟩ := hB
  rw [ht] at hP1
  obtain ⟨hP, hD⟩ := va_join (wr := wr) (w1 := [(a, .inl (T3.1, n, .inl (fun _ => v)))]) hP hD [j] isR hC hRr hnd (fun i h1 h2 => by rw [List.mem_singleton] at h2; subst h2; exact hdis h1) hk1 hFc hP1 hD1
  rw [h1] at hP hD
  exact k H1 locs ls hP hD hS hl
end VFILL2
