section ZM4
variable {Γ : Gm} {p : Program} {l : Launch} {e : Env} {s : State} {m : MethodId} {args : Array Value} {below : List Frame} {meth : Method} {c : Code}
set_option maxRecDepth 10000 in
theorem c_MO_prize' {Γ : Gm} {l : Launch} {x1 : Int32} {x2 : Int32} {σ σ' : Sg} {r : Int32} (hf : f_MO_prize x1 x2 σ = some (r, σ')) : Ctr Γ l y_MO_prize c_MO_prize 4 (some .int) 1 22 [.ref (Γ.2.2.1 112), .int x1, .int x2] σ σ' (some (.int r)) := by
  refine Ctr.of (lv := [(0, .ref (Γ.2.2.1 112)), (1, .int x1), (2, .int x2)]) (by decide +kernel) (Nat.le_of_ble_eq_true rfl) rfl ?_
  intro p e s m args below meth c X hr hk9
  have X : Cx Γ p (z_rm 1 22) s m args c c_MO_prize 4 "CaptionTalliesModel" 0 0 := X
  rw [f_MO_prize] at hf
  refine g_iload_n X d_MO_prize_0 1 rfl ?_
  refine g_iconst X d_MO_prize_1 (v := (nI 1)) rfl ?_
  refine g_iconst X d_MO_prize_2 (v := (nI 5)) rfl ?_
  obtain ⟨r1, σ2, er1, hf⟩ := bd_some hf
  refine ca_MO_in X d_MO_prize_3 wl_MO_74 ⟨Nat.le_of_ble_eq_true rfl, Nat.le_of_ble_eq_true rfl⟩ (sum8 rfl) er1 ?_
  refine g_if_eq X d_MO_prize_6 20 (by decide) (fun q3 => ?_) (fun q3 => ?_)
  · have hf := ite_t q3 hf
    refine g_bipush X d_MO_prize_20 (v := (-2)) rfl ?_
    exact g_iret X d_MO_prize_22 hr hk9 hf
  · have hf := ite_f q3 hf
    refine g_iload_n X d_MO_prize_9 2 rfl ?_
    refine g_iconst X d_MO_prize_10 (v := (nI 0)) rfl ?_
    refine g_sipush X d_MO_prize_11 (v := (nI 999)) rfl ?_
    obtain ⟨r4, σ5, er4, hf⟩ := bd_some hf
    refine ca_MO_in X d_MO_prize_14 wl_MO_74 ⟨Nat.le_of_ble_eq_true rfl, Nat.le_of_ble_eq_true rfl⟩ (sum8 rfl) er4 ?_
    refine g_if_ne X d_MO_prize_17 23 (by decide) (fun q6 => ?_) (fun q6 => ?_)
    · have hf := ite_f q6 hf
      refine g_aload_n X d_MO_prize_23 0 rfl ?_
      refine gf_112_0 X d_MO_prize_24 wl_MO_7 ?_
      refine g_iconst X d_MO_prize_27 (v := (nI 4)) rfl ?_
      refine g_iload_n X d_MO_prize_28 1 rfl ?_
      refine g_iadd X d_MO_prize_29 ?_
      refine g_iconst X d_MO_prize_30 (v := (nI 1)) rfl ?_
      refine g_isub X d_MO_prize_31 ?_
      obtain ⟨b7, hf⟩ := gd_some hf
      refine g_iald X d_MO_prize_32 kd_113 b7 ?_
      obtain ⟨v8, ev8, hf⟩ := lt_ex hf
      refine g_top ev8 ?_
      refine g_istore_n X d_MO_prize_33 rfl (lv' := [(3, .int v8), (0, .ref (Γ.2.2.1 112)), (1, .int x1), (2, .int x2)]) (Nat.le_of_ble_eq_true rfl) rfl ?_
      refine g_iload_n X d_MO_prize_34 0 rfl ?_
      refine g_iload_n X d_MO_prize_35 3 rfl ?_
      refine g_ic_ne X d_MO_prize_36 42 (by decide) (fun q9 => ?_) (fun q9 => ?_)
      · have hf := ite_f q9 hf
        refine g_aload_n X d_MO_prize_42 1 rfl ?_
        obtain ⟨r10, σ11, er10, hf⟩ := bd_some hf
        refine ca_MO_record X d_MO_prize_43 wl_MO_156 ⟨Nat.le_of_ble_eq_true rfl, Nat.le_of_ble_eq_true rfl⟩ (sum8 rfl) er10 ?_
        refine g_aload_n X d_MO_prize_46 1 rfl ?_
        refine gf_112_0 X d_MO_prize_47 wl_MO_7 ?_
        refine g_iconst X d_MO_prize_50 (v := (nI 4)) rfl ?_
        refine g_iload_n X d_MO_prize_51 2 rfl ?_
        refine g_iadd X d_MO_prize_52 ?_
        refine g_iconst X d_MO_prize_53 (v := (nI 1)) rfl ?_
        refine g_isub X d_MO_prize_54 ?_
        refine g_iload_n X d_MO_prize_55 3 rfl ?_
        obtain ⟨b12, hf⟩ := gd_some hf
        obtain ⟨σ13, eσ13, hf⟩ := lt_ex hf
        refine g_iast X d_MO_prize_56 kd_113 b12 eσ13 ?_
        refine g_iload_n X d_MO_prize_57 0 rfl ?_
        exact g_iret X d_MO_prize_58 hr hk9 hf
      · have hf := ite_t q9 hf
        refine g_bipush X d_MO_prize_39 (v := (-5)) rfl ?_
        exact g_iret X d_MO_prize_41 hr hk9 hf
    · have hf := ite_t q6 hf
      refine g_bipush X d_MO_prize_20 (v := (-2)) rfl ?_
      exact g_iret X d_MO_prize_22 hr hk9 hf
section
variable {R : Room} {kc ks : Nat} {Q : State → Prop} {nL : Nat} {cc : ByteArray} {own : String} {pc : Nat} {lv lv' : List (Nat × Value)} {st : List Value}
theorem ca_MO_prize {x1 : Int32} {x2 : Int32} (X : Cx Γ p R s m args c cc nL own kc ks) {idx : Nat} (hd : decode cc pc = .ok (.invokevirtual idx, 3)) (hlk : Cond.methodLink own idx y_MO_prize ∈ lw_gt) (hR : 1 + 1 ≤ R.frames ∧ 8 + (4 + 11) + 22 ≤ R.locals) (hw : (st.map fun v => v.category).sum ≤ 8) {σ σ' : Sg} {r : Int32} (hf : f_MO_prize x1 x2 σ = some (r, σ')) (k : G Γ p l e R s m args below meth c kc ks Q nL (pc + 3) lv (.int r :: st) σ') : G Γ p l e R s m args below meth c kc ks Q nL pc lv (.int x2 :: .int x1 :: .ref (Γ.2.2.1 112) :: st) σ :=
  g_callV (As := [.int x1, .int x2]) (rest := st) X hd (c_MO_prize' hf) co_MO_prize hlk wn_MO_prize wse_MO_prize (by decide) kd_112 rfl hR rfl rfl hw k
end
set_option maxRecDepth 10000 in
theorem c_MO_type' {Γ : Gm} {l : Launch} {x1 : Int32} {σ σ' : Sg} {r : Int32} (hf : f_MO_type x1 σ = some (r, σ')) : Ctr Γ l y_MO_type c_MO_type 2 (some .int) 0 0 [.ref (Γ.2.2.1 112), .int x1] σ σ' (some (.int r)) := by
  refine Ctr.of (lv := [(0, .ref (Γ.2.2.1 112)), (1, .int x1)]) (by decide +kernel) (Nat.le_of_ble_eq_true rfl) rfl ?_
  intro p e s m args below meth c X hr hk9
  have X : Cx Γ p (z_rm 0 0) s m args c c_MO_type 2 "CaptionTalliesModel" 0 0 := X
  rw [f_MO_type] at hf
  refine g_aload_n X d_MO_type_0 0 rfl ?_
  refine gf_112_5 X d_MO_type_1 wl_MO_146 ?_
  refine g_bipush X d_MO_type_4 (v := (nI 60)) rfl ?_
  refine g_ic_ne X d_MO_type_6 12 (by decide) (fun q1 => ?_) (fun q1 => ?_)
  · have hf := ite_f q1 hf
    refine g_aload_n X d_MO_type_12 0 rfl ?_
    refine gf_112_3 X d_MO_type_13 wl_MO_19 ?_
    refine g_aload_n X d_MO_type_16 0 rfl ?_
    refine gf_112_5 X d_MO_type_17 wl_MO_146 ?_
    refine g_iload_n X d_MO_type_20 1 rfl ?_
    obtain ⟨b2, hf⟩ := gd_some hf
    obtain ⟨σ3, eσ3, hf⟩ := lt_ex hf
    refine g_iast X d_MO_type_21 kd_116 b2 eσ3 ?_
    refine g_aload_n X d_MO_type_22 0 rfl ?_
    refine g_dup X d_MO_type_23 rfl ?_
    refine gf_112_5 X d_MO_type_24 wl_MO_146 ?_
    refine g_iconst X d_MO_type_27 (v := (nI 1)) rfl ?_
    refine g_iadd X d_MO_type_28 ?_
    obtain ⟨σ4, eσ4, hf⟩ := lt_ex hf
    refine gp_112_5 X d_MO_type_29 wl_MO_146 eσ4 ?_
    refine g_aload_n X d_MO_type_32 0 rfl ?_
    refine gf_112_5 X d_MO_type_33 wl_MO_146 ?_
    exact g_iret X d_MO_type_36 hr hk9 hf
  · have hf := ite_t q1 hf
    refine g_bipush X d_MO_type_9 (v := (-3)) rfl ?_
    exact g_iret X d_MO_type_11 hr hk9 hf
section
variable {R : Room} {kc ks : Nat} {Q : State → Prop} {nL : Nat} {cc : ByteArray} {own : String} {pc : Nat} {lv lv' : List (Nat × Value)} {st : List Value}
theorem ca_MO_type {x1 : Int32} (X : Cx Γ p R s m args c cc nL own kc ks) {idx : Nat} (hd : decode cc pc = .ok (.invokevirtual idx, 3)) (hlk : Cond.methodLink own idx y_MO_type ∈ lw_gt) (hR : 0 + 1 ≤ R.frames ∧ 8 + (2 + 11) + 0 ≤ R.locals) (hw : (st.map fun v => v.category).sum ≤ 8) {σ σ' : Sg} {r : Int32} (hf : f_MO_type x1 σ = some (r, σ')) (k : G Γ p l e R s m args below meth c kc ks Q nL (pc + 3) lv (.int r :: st) σ') : G Γ p l e R s m args below meth c kc ks Q nL pc lv (.int x1 :: .ref (Γ.2.2.1 112) :: st) σ :=
  g_callV (As := [.int x1]) (rest := st) X hd (c_MO_type' hf) co_MO_type hlk wn_MO_type wse_MO_type (by decide) kd_112 rfl hR rfl rfl hw k
end
set_option maxRecDepth 10000 in
theorem c_MO_clearText' {Γ : Gm} {l : Launch} {σ σ' : Sg} {r : Int32} (hf : f_MO_clearText σ = some (r, σ')) : Ctr Γ l y_MO_clearText c_MO_clearText 2 (some .int) 0 0 [.ref (Γ.2.2.1 112)] σ σ' (some (.int r)) := by
  refine Ctr.of (lv := [(0, .ref (Γ.2.2.1 112))]) (by decide +kernel) (Nat.le_of_ble_eq_true rfl) rfl ?_
  intro p e s m args below meth c X hr hk9
  have X : Cx Γ p (z_rm 0 0) s m args c c_MO_clearText 2 "CaptionTalliesModel" 0 0 := X
  rw [f_MO_clearText] at hf
  refine g_aload_n X d_MO_clearText_0 0 rfl ?_
  refine gf_112_5 X d_MO_clearText_1 wl_MO_146 ?_
  obtain ⟨v1, ev1, hf⟩ := lt_ex hf
  refine g_top ev1 ?_
  refine g_istore_n X d_MO_clearText_4 rfl (lv' := [(1, .int v1), (0, .ref (Γ.2.2.1 112))]) (Nat.le_of_ble_eq_true rfl) rfl ?_
  refine g_aload_n X d_MO_clearText_5 1 rfl ?_
  refine g_iconst X d_MO_clearText_6 (v := (nI 0)) rfl ?_
  obtain ⟨σ2, eσ2, hf⟩ := lt_ex hf
  refine gp_112_5 X d_MO_clearText_7 wl_MO_146 eσ2 ?_
  refine g_iload_n X d_MO_clearText_10 0 rfl ?_
  exact g_iret X d_MO_clearText_11 hr hk9 hf
section
variable {R : Room} {kc ks : Nat} {Q : State → Prop} {nL : Nat} {cc : ByteArray} {own : String} {pc : Nat} {lv lv' : List (Nat × Value)} {st : List Value}
theorem ca_MO_clearText (X : Cx Γ p R s m args c cc nL own kc ks) {idx : Nat} (hd : decode cc pc = .ok (.invokevirtual idx, 3)) (hlk : Cond.methodLink own idx y_MO_clearText ∈ lw_gt) (hR : 0 + 1 ≤ R.frames ∧ 8 + (2 + 11) + 0 ≤ R.locals) (hw : (st.map fun v => v.category).sum ≤ 8) {σ σ' : Sg} {r : Int32} (hf : f_MO_clearText σ = some (r, σ')) (k : G Γ p l e R s m args below meth c kc ks Q nL (pc + 3) lv (.int r :: st) σ') : G Γ p l e R s m args below meth c kc ks Q nL pc lv (.ref (Γ.2.2.1 112) :: st) σ :=
  g_callV (As := []) (rest := st) X hd (c_MO_clearText' hf) co_MO_clearText hlk wn_MO_clearText wse_MO_clearText (by decide) kd_112 rfl hR rfl rfl hw k
end
set_option maxRecDepth 10000 in
theorem w_MO_undo_22 {r : Int32} {σ' : Sg} (X : Cx Γ p (z_rm 0 0) s m args c c_MO_undo 2 "CaptionTalliesModel" 0 0) (hr : meth.sig.returnType = (some .int)) (hk9 : meth.locks = false) : ∀ (n9 : Nat) (x1 : Int32) (σ : Sg), f_MO_undo_22 n9 x1 σ = some (r, σ') → G Γ p l e (z_rm 0 0) s m args below meth c 0 0 (MQ below (Qx Γ (some (.int r)) σ') args s 0 0 (fun q : Nat => Γ.2.2.2 ≤ q)) 2 22 [(0, .ref (Γ.2.2.1 112)), (1, .int x1)] [] σ := by
  intro n9
  induction n9 with
  | zero => intro x1 σ hf; cases hf
  | succ n9 ih =>
    intro x1 σ hf
    rw [f_MO_undo_22] at hf
    refine g_iload_n X d_MO_undo_22 1 rfl ?_
    refine g_sipush X d_MO_undo_23 (v := (nI 1385)) rfl ?_
    refine g_ic_ge X d_MO_undo_26 56 (by decide) (fun q1 => ?_) (fun q1 => ?_)
    · have hf := ite_t q1 hf
      refine g_aload_n X d_MO_undo_56 0 rfl ?_
      refine gf_112_4 X d_MO_undo_57 wl_MO_70 ?_
      exact g_iret X d_MO_undo_60 hr hk9 hf
    · have hf := ite_f q1 hf
      refine g_aload_n X d_MO_undo_29 0 rfl ?_
      refine gf_112_0 X d_MO_undo_30 wl_MO_7 ?_
      refine g_iload_n X d_MO_undo_33 1 rfl ?_
      refine g_aload_n X d_MO_undo_34 0 rfl ?_
      refine gf_112_2 X d_MO_undo_35 wl_MO_16 ?_
      refine g_sipush X d_MO_undo_38 (v := (nI 1385)) rfl ?_
      refine g_aload_n X d_MO_undo_41 0 rfl ?_
      refine gf_112_4 X d_MO_undo_42 wl_MO_70 ?_
      refine g_imul X d_MO_undo_45 ?_
      refine g_iload_n X d_MO_undo_46 1 rfl ?_
      refine g_iadd X d_MO_undo_47 ?_
      obtain ⟨b2, hf⟩ := gd_some hf
      refine g_iald X d_MO_undo_48 kd_115 b2 ?_
      obtain ⟨b3, hf⟩ := gd_some hf
      obtain ⟨σ4, eσ4, hf⟩ := lt_ex hf
      refine g_iast X d_MO_undo_49 kd_113 b3 eσ4 ?_
      refine g_iinc X d_MO_undo_50 (j := 1) (lv' := [(1, .int (x1 + (nI 1))), (0, .ref (Γ.2.2.1 112))]) rfl rfl (Nat.le_of_ble_eq_true rfl) rfl ?_
      refine g_goto X d_MO_undo_53 22 (by decide) ?_
      refine g_sub [1, 0] rfl ?_
      exact ih _ _ hf
set_option maxRecDepth 10000 in
theorem c_MO_undo' {Γ : Gm} {l : Launch} {σ σ' : Sg} {r : Int32} (hf : f_MO_undo σ = some (r, σ')) : Ctr Γ l y_MO_undo c_MO_undo 2 (some .int) 0 0 [.ref (Γ.2.2.1 112)] σ σ' (some (.int r)) := by
  refine Ctr.of (lv := [(0, .ref (Γ.2.2.1 112))]) (by decide +kernel) (Nat.le_of_ble_eq_true rfl) rfl ?_
  intro p e s m args below meth c X hr hk9
  have X : Cx Γ p (z_rm 0 0) s m args c c_MO_undo 2 "CaptionTalliesModel" 0 0 := X
  rw [f_MO_undo] at hf
  refine g_aload_n X d_MO_undo_0 0 rfl ?_
  refine gf_112_4 X d_MO_undo_1 wl_MO_70 ?_
  refine g_if_ne X d_MO_undo_4 10 (by decide) (fun q1 => ?_) (fun q1 => ?_)
  · have hf := ite_f q1 hf
    refine g_aload_n X d_MO_undo_10 0 rfl ?_
    refine g_dup X d_MO_undo_11 rfl ?_
    refine gf_112_4 X d_MO_undo_12 wl_MO_70 ?_
    refine g_iconst X d_MO_undo_15 (v := (nI 1)) rfl ?_
    refine g_isub X d_MO_undo_16 ?_
    obtain ⟨σ2, eσ2, hf⟩ := lt_ex hf
    refine gp_112_4 X d_MO_undo_17 wl_MO_70 eσ2 ?_
    refine g_iconst X d_MO_undo_20 (v := (nI 0)) rfl ?_
    refine g_istore_n X d_MO_undo_21 rfl (lv' := [(1, .int (nI 0)), (0, .ref (Γ.2.2.1 112))]) (Nat.le_of_ble_eq_true rfl) rfl ?_
    refine g_sub [1, 0] rfl ?_
    exact w_MO_undo_22 X hr hk9 _ _ _ hf
  · have hf := ite_t q1 hf
    refine g_bipush X d_MO_undo_7 (v := (-5)) rfl ?_
    exact g_iret X d_MO_undo_9 hr hk9 hf
section
variable {R : Room} {kc ks : Nat} {Q : State → Prop} {nL : Nat} {cc : ByteArray} {own : String} {pc : Nat} {lv lv' : List (Nat × Value)} {st : List Value}
theorem ca_MO_undo (X : Cx Γ p R s m args c cc nL own kc ks) {idx : Nat} (hd : decode cc pc = .ok (.invokevirtual idx, 3)) (hlk : Cond.methodLink own idx y_MO_undo ∈ lw_gt) (hR : 0 + 1 ≤ R.frames ∧ 8 + (2 + 11) + 0 ≤ R.locals) (hw : (st.map fun v => v.category).sum ≤ 8) {σ σ' : Sg} {r : Int32} (hf : f_MO_undo σ = some (r, σ')) (k : G Γ p l e R s m args below meth c kc ks Q nL (pc + 3) lv (.int r :: st) σ') : G Γ p l e R s m args below meth c kc ks Q nL pc lv (.ref (Γ.2.2.1 112) :: st) σ :=
  g_callV (As := []) (rest := st) X hd (c_MO_undo' hf) co_MO_undo hlk wn_MO_undo wse_MO_undo (by decide) kd_112 rfl hR rfl rfl hw k
end
set_option maxRecDepth 10000 in
theorem w_MO_keep_2 {r : Int32} {σ' : Sg} (X : Cx Γ p (z_rm 1 22) s m args c c_MO_keep 2 "CaptionTalliesModel" 0 0) (hr : meth.sig.returnType = (some .int)) (hk9 : meth.locks = false) : ∀ (n9 : Nat) (x1 : Int32) (σ : Sg), f_MO_keep_2 n9 x1 σ = some (r, σ') → G Γ p l e (z_rm 1 22) s m args below meth c 0 0 (MQ below (Qx Γ (some (.int r)) σ') args s 0 0 (fun q : Nat => Γ.2.2.2 ≤ q)) 2 2 [(0, .ref (Γ.2.2.1 112)), (1, .int x1)] [] σ := by
  intro n9
  induction n9 with
  | zero => intro x1 σ hf; cases hf
  | succ n9 ih =>
    intro x1 σ hf
    rw [f_MO_keep_2] at hf
    refine g_iload_n X d_MO_keep_2 1 rfl ?_
    refine g_sipush X d_MO_keep_3 (v := (nI 1385)) rfl ?_
    refine g_ic_ge X d_MO_keep_6 27 (by decide) (fun q1 => ?_) (fun q1 => ?_)
    · have hf := ite_t q1 hf
      refine g_aload_n X d_MO_keep_27 0 rfl ?_
      refine g_iconst X d_MO_keep_28 (v := (nI 1)) rfl ?_
      obtain ⟨σ2, eσ2, hf⟩ := lt_ex hf
      refine gp_112_6 X d_MO_keep_29 wl_MO_162 rfl eσ2 ?_
      refine g_aload_n X d_MO_keep_32 0 rfl ?_
      obtain ⟨r3, σ4, er3, hf⟩ := bd_some hf
      refine ca_MO_there X d_MO_keep_33 wl_MO_159 ⟨Nat.le_of_ble_eq_true rfl, Nat.le_of_ble_eq_true rfl⟩ (sum8 rfl) er3 ?_
      exact g_iret X d_MO_keep_36 hr hk9 hf
    · have hf := ite_f q1 hf
      refine g_aload_n X d_MO_keep_9 0 rfl ?_
      refine gf_112_1 X d_MO_keep_10 wl_MO_13 ?_
      refine g_iload_n X d_MO_keep_13 1 rfl ?_
      refine g_aload_n X d_MO_keep_14 0 rfl ?_
      refine gf_112_0 X d_MO_keep_15 wl_MO_7 ?_
      refine g_iload_n X d_MO_keep_18 1 rfl ?_
      obtain ⟨b5, hf⟩ := gd_some hf
      refine g_iald X d_MO_keep_19 kd_113 b5 ?_
      obtain ⟨b6, hf⟩ := gd_some hf
      obtain ⟨σ7, eσ7, hf⟩ := lt_ex hf
      refine g_iast X d_MO_keep_20 kd_114 b6 eσ7 ?_
      refine g_iinc X d_MO_keep_21 (j := 1) (lv' := [(1, .int (x1 + (nI 1))), (0, .ref (Γ.2.2.1 112))]) rfl rfl (Nat.le_of_ble_eq_true rfl) rfl ?_
      refine g_goto X d_MO_keep_24 2 (by decide) ?_
      refine g_sub [1, 0] rfl ?_
      exact ih _ _ hf
set_option maxRecDepth 10000 in
theorem c_MO_keep' {Γ : Gm} {l : Launch} {σ σ' : Sg} {r : Int32} (hf : f_MO_keep σ = some (r, σ')) : Ctr Γ l y_MO_keep c_MO_keep 2 (some .int) 1 22 [.ref (Γ.2.2.1 112)] σ σ' (some (.int r)) := by
  refine Ctr.of (lv := [(0, .ref (Γ.2.2.1 112))]) (by decide +kernel) (Nat.le_of_ble_eq_true rfl) rfl ?_
  intro p e s m args below meth c X hr hk9
  have X : Cx Γ p (z_rm 1 22) s m args c c_MO_keep 2 "CaptionTalliesModel" 0 0 := X
  rw [f_MO_keep] at hf
  refine g_iconst X d_MO_keep_0 (v := (nI 0)) rfl ?_
  refine g_istore_n X d_MO_keep_1 rfl (lv' := [(1, .int (nI 0)), (0, .ref (Γ.2.2.1 112))]) (Nat.le_of_ble_eq_true rfl) rfl ?_
  refine g_sub [1, 0] rfl ?_
  exact w_MO_keep_2 X hr hk9 _ _ _ hf
section
variable {R : Room} {kc ks : Nat} {Q : State → Prop} {nL : Nat} {cc : ByteArray} {own : String} {pc : Nat} {lv lv' : List (Nat × Value)} {st : List Value}
theorem ca_MO_keep (X : Cx Γ p R s m args c cc nL own kc ks) {idx : Nat} (hd : decode cc pc = .ok (.invokevirtual idx, 3)) (hlk : Cond.methodLink own idx y_MO_keep ∈ lw_gt) (hR : 1 + 1 ≤ R.frames ∧ 8 + (2 + 11) + 22 ≤ R.locals) (hw : (st.map fun v => v.category).sum ≤ 8) {σ σ' : Sg} {r : Int32} (hf : f_MO_keep σ = some (r, σ')) (k : G Γ p l e R s m args below meth c kc ks Q nL (pc + 3) lv (.int r :: st) σ') : G Γ p l e R s m args below meth c kc ks Q nL pc lv (.ref (Γ.2.2.1 112) :: st) σ :=
  g_callV (As := []) (rest := st) X hd (c_MO_keep' hf) co_MO_keep hlk wn_MO_keep wse_MO_keep (by decide) kd_112 rfl hR rfl rfl hw k
end
set_option maxRecDepth 10000 in
theorem w_MO_restore_16 {r : Int32} {σ' : Sg} (X : Cx Γ p (z_rm 1 22) s m args c c_MO_restore 2 "CaptionTalliesModel" 0 0) (hr : meth.sig.returnType = (some .int)) (hk9 : meth.locks = false) : ∀ (n9 : Nat) (x1 : Int32) (σ : Sg), f_MO_restore_16 n9 x1 σ = some (r, σ') → G Γ p l e (z_rm 1 22) s m args below meth c 0 0 (MQ below (Qx Γ (some (.int r)) σ') args s 0 0 (fun q : Nat => Γ.2.2.2 ≤ q)) 2 16 [(0, .ref (Γ.2.2.1 112)), (1, .int x1)] [] σ := by
  intro n9
  induction n9 with
  | zero => intro x1 σ hf; cases hf
  | succ n9 ih =>
    intro x1 σ hf
    rw [f_MO_restore_16] at hf
    refine g_iload_n X d_MO_restore_16 1 rfl ?_
    refine g_sipush X d_MO_restore_17 (v := (nI 1385)) rfl ?_
    refine g_ic_ge X d_MO_restore_20 41 (by decide) (fun q1 => ?_) (fun q1 => ?_)
    · have hf := ite_t q1 hf
      refine g_aload_n X d_MO_restore_41 0 rfl ?_
      obtain ⟨r2, σ3, er2, hf⟩ := bd_some hf
      refine ca_MO_there X d_MO_restore_42 wl_MO_159 ⟨Nat.le_of_ble_eq_true rfl, Nat.le_of_ble_eq_true rfl⟩ (sum8 rfl) er2 ?_
      exact g_iret X d_MO_restore_45 hr hk9 hf
    · have hf := ite_f q1 hf
      refine g_aload_n X d_MO_restore_23 0 rfl ?_
      refine gf_112_0 X d_MO_restore_24 wl_MO_7 ?_
      refine g_iload_n X d_MO_restore_27 1 rfl ?_
      refine g_aload_n X d_MO_restore_28 0 rfl ?_
      refine gf_112_1 X d_MO_restore_29 wl_MO_13 ?_
      refine g_iload_n X d_MO_restore_32 1 rfl ?_
      obtain ⟨b4, hf⟩ := gd_some hf
      refine g_iald X d_MO_restore_33 kd_114 b4 ?_
      obtain ⟨b5, hf⟩ := gd_some hf
      obtain ⟨σ6, eσ6, hf⟩ := lt_ex hf
      refine g_iast X d_MO_restore_34 kd_113 b5 eσ6 ?_
      refine g_iinc X d_MO_restore_35 (j := 1) (lv' := [(1, .int (x1 + (nI 1))), (0, .ref (Γ.2.2.1 112))]) rfl rfl (Nat.le_of_ble_eq_true rfl) rfl ?_
      refine g_goto X d_MO_restore_38 16 (by decide) ?_
      refine g_sub [1, 0] rfl ?_
      exact ih _ _ hf
set_option maxRecDepth 10000 in
theorem c_MO_restore' {Γ : Gm} {l : Launch} {σ σ' : Sg} {r : Int32} (hf : f_MO_restore σ = some (r, σ')) : Ctr Γ l y_MO_restore c_MO_restore 2 (some .int) 1 22 [.ref (Γ.2.2.1 112)] σ σ' (some (.int r)) := by
  refine Ctr.of (lv := [(0, .ref (Γ.2.2.1 112))]) (by decide +kernel) (Nat.le_of_ble_eq_true rfl) rfl ?_
  intro p e s m args below meth c X hr hk9
  have X : Cx Γ p (z_rm 1 22) s m args c c_MO_restore 2 "CaptionTalliesModel" 0 0 := X
  rw [f_MO_restore] at hf
  refine g_aload_n X d_MO_restore_0 0 rfl ?_
  refine gf_112_6 X d_MO_restore_1 wl_MO_162 ?_
  refine g_if_ne X d_MO_restore_4 10 (by decide) (fun q1 => ?_) (fun q1 => ?_)
  · have hf := ite_f q1 hf
    refine g_aload_n X d_MO_restore_10 0 rfl ?_
    obtain ⟨r2, σ3, er2, hf⟩ := bd_some hf
    refine ca_MO_record X d_MO_restore_11 wl_MO_156 ⟨Nat.le_of_ble_eq_true rfl, Nat.le_of_ble_eq_true rfl⟩ (sum8 rfl) er2 ?_
    refine g_iconst X d_MO_restore_14 (v := (nI 0)) rfl ?_
    refine g_istore_n X d_MO_restore_15 rfl (lv' := [(1, .int (nI 0)), (0, .ref (Γ.2.2.1 112))]) (Nat.le_of_ble_eq_true rfl) rfl ?_
    refine g_sub [1, 0] rfl ?_
    exact w_MO_restore_16 X hr hk9 _ _ _ hf
  · have hf := ite_t q1 hf
    refine g_bipush X d_MO_restore_7 (v := (-5)) rfl ?_
    exact g_iret X d_MO_restore_9 hr hk9 hf
section
variable {R : Room} {kc ks : Nat} {Q : State → Prop} {nL : Nat} {cc : ByteArray} {own : String} {pc : Nat} {lv lv' : List (Nat × Value)} {st : List Value}
theorem ca_MO_restore (X : Cx Γ p R s m args c cc nL own kc ks) {idx : Nat} (hd : decode cc pc = .ok (.invokevirtual idx, 3)) (hlk : Cond.methodLink own idx y_MO_restore ∈ lw_gt) (hR : 1 + 1 ≤ R.frames ∧ 8 + (2 + 11) + 22 ≤ R.locals) (hw : (st.map fun v => v.category).sum ≤ 8) {σ σ' : Sg} {r : Int32} (hf : f_MO_restore σ = some (r, σ')) (k : G Γ p l e R s m args below meth c kc ks Q nL (pc + 3) lv (.int r :: st) σ') : G Γ p l e R s m args below meth c kc ks Q nL pc lv (.ref (Γ.2.2.1 112) :: st) σ :=
  g_callV (As := []) (rest := st) X hd (c_MO_restore' hf) co_MO_restore hlk wn_MO_restore wse_MO_restore (by decide) kd_112 rfl hR rfl rfl hw k
end
set_option maxRecDepth 10000 in
theorem w_MO_links_4 {r : Int32} {σ' : Sg} (X : Cx Γ p (z_rm 2 43) s m args c c_MO_links 4 "CaptionTalliesModel" 0 0) (hr : meth.sig.returnType = (some .int)) (hk9 : meth.locks = false) : ∀ (n9 : Nat) (x1 : Int32) (x2 : Int32) (x3 : Int32) (σ : Sg), f_MO_links_4 n9 x1 x2 x3 σ = some (r, σ') → G Γ p l e (z_rm 2 43) s m args below meth c 0 0 (MQ below (Qx Γ (some (.int r)) σ') args s 0 0 (fun q : Nat => Γ.2.2.2 ≤ q)) 4 4 [(0, .ref (Γ.2.2.1 112)), (1, .int x1), (2, .int x2), (3, .int x3)] [] σ := by
  intro n9
  induction n9 with
  | zero => intro x1 x2 x3 σ hf; cases hf
  | succ n9 ih =>
    intro x1 x2 x3 σ hf
    rw [f_MO_links_4] at hf
    refine g_iload_n X d_MO_links_4 3 rfl ?_
    refine g_aload_n X d_MO_links_5 0 rfl ?_
    refine gf_112_0 X d_MO_links_6 wl_MO_7 ?_
    refine g_iconst X d_MO_links_9 (v := (nI 0)) rfl ?_
    obtain ⟨b1, hf⟩ := gd_some hf
    refine g_iald X d_MO_links_10 kd_113 b1 ?_
    refine g_ic_ge X d_MO_links_11 45 (by decide) (fun q2 => ?_) (fun q2 => ?_)
    · have hf := ite_t q2 hf
      refine g_iload_n X d_MO_links_45 2 rfl ?_
      exact g_iret X d_MO_links_46 hr hk9 hf
    · have hf := ite_f q2 hf
      refine g_iload_n X d_MO_links_14 2 rfl ?_
      refine g_aload_n X d_MO_links_15 0 rfl ?_
      refine g_iload_n X d_MO_links_16 3 rfl ?_
      obtain ⟨r3, σ4, er3, hf⟩ := bd_some hf
      refine ca_MO_is X d_MO_links_17 wl_MO_96 ⟨Nat.le_of_ble_eq_true rfl, Nat.le_of_ble_eq_true rfl⟩ (sum8 rfl) er3 ?_
      refine g_if_eq X d_MO_links_20 36 (by decide) (fun q5 => ?_) (fun q5 => ?_)
      · have hf := ite_t q5 hf
        refine g_iconst X d_MO_links_36 (v := (nI 0)) rfl ?_
        refine g_iadd X d_MO_links_37 ?_
        obtain ⟨v6, ev6, hf⟩ := lt_ex hf
        refine g_top ev6 ?_
        refine g_istore_n X d_MO_links_38 rfl (lv' := [(2, .int v6), (0, .ref (Γ.2.2.1 112)), (1, .int x1), (3, .int x3)]) (Nat.le_of_ble_eq_true rfl) rfl ?_
        refine g_iinc X d_MO_links_39 (j := 3) (lv' := [(3, .int (x3 + (nI 1))), (2, .int v6), (0, .ref (Γ.2.2.1 112)), (1, .int x1)]) rfl rfl (Nat.le_of_ble_eq_true rfl) rfl ?_
        refine g_goto X d_MO_links_42 4 (by decide) ?_
        refine g_sub [2, 3, 1, 0] rfl ?_
        exact ih _ _ _ _ hf
      · have hf := ite_f q5 hf
        refine g_aload_n X d_MO_links_23 0 rfl ?_
        refine g_iload_n X d_MO_links_24 1 rfl ?_
        refine g_iload_n X d_MO_links_25 3 rfl ?_
        obtain ⟨r7, σ8, er7, hf⟩ := bd_some hf
        refine ca_MO_isLinked X d_MO_links_26 wl_MO_99 ⟨Nat.le_of_ble_eq_true rfl, Nat.le_of_ble_eq_true rfl⟩ (sum8 rfl) er7 ?_
        refine g_if_eq X d_MO_links_29 36 (by decide) (fun q9 => ?_) (fun q9 => ?_)
        · have hf := ite_t q9 hf
          refine g_iconst X d_MO_links_36 (v := (nI 0)) rfl ?_
          refine g_iadd X d_MO_links_37 ?_
          obtain ⟨v10, ev10, hf⟩ := lt_ex hf
          refine g_top ev10 ?_
          refine g_istore_n X d_MO_links_38 rfl (lv' := [(2, .int v10), (0, .ref (Γ.2.2.1 112)), (1, .int x1), (3, .int x3)]) (Nat.le_of_ble_eq_true rfl) rfl ?_
          refine g_iinc X d_MO_links_39 (j := 3) (lv' := [(3, .int (x3 + (nI 1))), (2, .int v10), (0, .ref (Γ.2.2.1 112)), (1, .int x1)]) rfl rfl (Nat.le_of_ble_eq_true rfl) rfl ?_
          refine g_goto X d_MO_links_42 4 (by decide) ?_
          refine g_sub [2, 3, 1, 0] rfl ?_
          exact ih _ _ _ _ hf
        · have hf := ite_f q9 hf
          refine g_iconst X d_MO_links_32 (v := (nI 1)) rfl ?_
          refine g_goto X d_MO_links_33 37 (by decide) ?_
          refine g_iadd X d_MO_links_37 ?_
          obtain ⟨v11, ev11, hf⟩ := lt_ex hf
          refine g_top ev11 ?_
          refine g_istore_n X d_MO_links_38 rfl (lv' := [(2, .int v11), (0, .ref (Γ.2.2.1 112)), (1, .int x1), (3, .int x3)]) (Nat.le_of_ble_eq_true rfl) rfl ?_
          refine g_iinc X d_MO_links_39 (j := 3) (lv' := [(3, .int (x3 + (nI 1))), (2, .int v11), (0, .ref (Γ.2.2.1 112)), (1, .int x1)]) rfl rfl (Nat.le_of_ble_eq_true rfl) rfl ?_
          refine g_goto X d_MO_links_42 4 (by decide) ?_
          refine g_sub [2, 3, 1, 0] rfl ?_
          exact ih _ _ _ _ hf
set_option maxRecDepth 10000 in
theorem c_MO_links' {Γ : Gm} {l : Launch} {x1 : Int32} {σ σ' : Sg} {r : Int32} (hf : f_MO_links x1 σ = some (r, σ')) : Ctr Γ l y_MO_links c_MO_links 4 (some .int) 2 43 [.ref (Γ.2.2.1 112), .int x1] σ σ' (some (.int r)) := by
  refine Ctr.of (lv := [(0, .ref (Γ.2.2.1 112)), (1, .int x1)]) (by decide +kernel) (Nat.le_of_ble_eq_true rfl) rfl ?_
  intro p e s m args below meth c X hr hk9
  have X : Cx Γ p (z_rm 2 43) s m args c c_MO_links 4 "CaptionTalliesModel" 0 0 := X
  rw [f_MO_links] at hf
  refine g_iconst X d_MO_links_0 (v := (nI 0)) rfl ?_
  refine g_istore_n X d_MO_links_1 rfl (lv' := [(2, .int (nI 0)), (0, .ref (Γ.2.2.1 112)), (1, .int x1)]) (Nat.le_of_ble_eq_true rfl) rfl ?_
  refine g_iconst X d_MO_links_2 (v := (nI 0)) rfl ?_
  refine g_istore_n X d_MO_links_3 rfl (lv' := [(3, .int (nI 0)), (2, .int (nI 0)), (0, .ref (Γ.2.2.1 112)), (1, .int x1)]) (Nat.le_of_ble_eq_true rfl) rfl ?_
  refine g_sub [2, 3, 1, 0] rfl ?_
  exact w_MO_links_4 X hr hk9 _ _ _ _ _ hf
section
variable {R : Room} {kc ks : Nat} {Q : State → Prop} {nL : Nat} {cc : ByteArray} {own : String} {pc : Nat} {lv lv' : List (Nat × Value)} {st : List Value}
theorem ca_MO_links {x1 : Int32} (X : Cx Γ p R s m args c cc nL own kc ks) {idx : Nat} (hd : decode cc pc = .ok (.invokevirtual idx, 3)) (hlk : Cond.methodLink own idx y_MO_links ∈ lw_gt) (hR : 2 + 1 ≤ R.frames ∧ 8 + (4 + 11) + 43 ≤ R.locals) (hw : (st.map fun v => v.category).sum ≤ 8) {σ σ' : Sg} {r : Int32} (hf : f_MO_links x1 σ = some (r, σ')) (k : G Γ p l e R s m args below meth c kc ks Q nL (pc + 3) lv (.int r :: st) σ') : G Γ p l e R s m args below meth c kc ks Q nL pc lv (.int x1 :: .ref (Γ.2.2.1 112) :: st) σ :=
  g_callV (As := [.int x1]) (rest := st) X hd (c_MO_links' hf) co_MO_links hlk wn_MO_links wse_MO_links (by decide) kd_112 rfl hR rfl rfl hw k
end
set_option maxRecDepth 10000 in
theorem w_MO_stands_4 {r : Int32} {σ' : Sg} (X : Cx Γ p (z_rm 0 0) s m args c c_MO_stands 4 "CaptionTalliesModel" 0 0) (hr : meth.sig.returnType = (some .int)) (hk9 : meth.locks = false) : ∀ (n9 : Nat) (x1 : Int32) (x2 : Int32) (x3 : Int32) (σ : Sg), f_MO_stands_4 n9 x1 x2 x3 σ = some (r, σ') → G Γ p l e (z_rm 0 0) s m args below meth c 0 0 (MQ below (Qx Γ (some (.int r)) σ') args s 0 0 (fun q : Nat => Γ.2.2.2 ≤ q)) 4 4 [(0, .ref (Γ.2.2.1 112)), (1, .int x1), (2, .int x2), (3, .int x3)] [] σ := by
  intro n9
  induction n9 with
  | zero => intro x1 x2 x3 σ hf; cases hf
  | succ n9 ih =>
    intro x1 x2 x3 σ hf
    rw [f_MO_stands_4] at hf
    refine g_iload_n X d_MO_stands_4 3 rfl ?_
    refine g_bipush X d_MO_stands_5 (v := (nI 36)) rfl ?_
    refine g_ic_ge X d_MO_stands_7 40 (by decide) (fun q1 => ?_) (fun q1 => ?_)
    · have hf := ite_t q1 hf
      refine g_iload_n X d_MO_stands_40 2 rfl ?_
      exact g_iret X d_MO_stands_41 hr hk9 hf
    · have hf := ite_f q1 hf
      refine g_iload_n X d_MO_stands_10 2 rfl ?_
      refine g_aload_n X d_MO_stands_11 0 rfl ?_
      refine gf_112_0 X d_MO_stands_12 wl_MO_7 ?_
      refine g_sipush X d_MO_stands_15 (v := (nI 1289)) rfl ?_
      refine g_iload_n X d_MO_stands_18 3 rfl ?_
      refine g_iadd X d_MO_stands_19 ?_
      obtain ⟨b2, hf⟩ := gd_some hf
      refine g_iald X d_MO_stands_20 kd_113 b2 ?_
      refine g_iload_n X d_MO_stands_21 1 rfl ?_
      refine g_iconst X d_MO_stands_22 (v := (nI 1)) rfl ?_
      refine g_iadd X d_MO_stands_23 ?_
      refine g_ic_ne X d_MO_stands_24 31 (by decide) (fun q3 => ?_) (fun q3 => ?_)
      · have hf := ite_f q3 hf
        refine g_iconst X d_MO_stands_31 (v := (nI 0)) rfl ?_
        refine g_iadd X d_MO_stands_32 ?_
        obtain ⟨v4, ev4, hf⟩ := lt_ex hf
        refine g_top ev4 ?_
        refine g_istore_n X d_MO_stands_33 rfl (lv' := [(2, .int v4), (0, .ref (Γ.2.2.1 112)), (1, .int x1), (3, .int x3)]) (Nat.le_of_ble_eq_true rfl) rfl ?_
        refine g_iinc X d_MO_stands_34 (j := 3) (lv' := [(3, .int (x3 + (nI 1))), (2, .int v4), (0, .ref (Γ.2.2.1 112)), (1, .int x1)]) rfl rfl (Nat.le_of_ble_eq_true rfl) rfl ?_
        refine g_goto X d_MO_stands_37 4 (by decide) ?_
        refine g_sub [2, 3, 1, 0] rfl ?_
        exact ih _ _ _ _ hf
      · have hf := ite_t q3 hf
        refine g_iconst X d_MO_stands_27 (v := (nI 1)) rfl ?_
        refine g_goto X d_MO_stands_28 32 (by decide) ?_
        refine g_iadd X d_MO_stands_32 ?_
        obtain ⟨v5, ev5, hf⟩ := lt_ex hf
        refine g_top ev5 ?_
        refine g_istore_n X d_MO_stands_33 rfl (lv' := [(2, .int v5), (0, .ref (Γ.2.2.1 112)), (1, .int x1), (3, .int x3)]) (Nat.le_of_ble_eq_true rfl) rfl ?_
        refine g_iinc X d_MO_stands_34 (j := 3) (lv' := [(3, .int (x3 + (nI 1))), (2, .int v5), (0, .ref (Γ.2.2.1 112)), (1, .int x1)]) rfl rfl (Nat.le_of_ble_eq_true rfl) rfl ?_
        refine g_goto X d_MO_stands_37 4 (by decide) ?_
        refine g_sub [2, 3, 1, 0] rfl ?_
        exact ih _ _ _ _ hf
set_option maxRecDepth 10000 in
theorem c_MO_stands' {Γ : Gm} {l : Launch} {x1 : Int32} {σ σ' : Sg} {r : Int32} (hf : f_MO_stands x1 σ = some (r, σ')) : Ctr Γ l y_MO_stands c_MO_stands 4 (some .int) 0 0 [.ref (Γ.2.2.1 112), .int x1] σ σ' (some (.int r)) := by
  refine Ctr.of (lv := [(0, .ref (Γ.2.2.1 112)), (1, .int x1)]) (by decide +kernel) (Nat.le_of_ble_eq_true rfl) rfl ?_
  intro p e s m args below meth c X hr hk9
  have X : Cx Γ p (z_rm 0 0) s m args c c_MO_stands 4 "CaptionTalliesModel" 0 0 := X
  rw [f_MO_stands] at hf
  refine g_iconst X d_MO_stands_0 (v := (nI 0)) rfl ?_
  refine g_istore_n X d_MO_stands_1 rfl (lv' := [(2, .int (nI 0)), (0, .ref (Γ.2.2.1 112)), (1, .int x1)]) (Nat.le_of_ble_eq_true rfl) rfl ?_
  refine g_iconst X d_MO_stands_2 (v := (nI 0)) rfl ?_
  refine g_istore_n X d_MO_stands_3 rfl (lv' := [(3, .int (nI 0)), (2, .int (nI 0)), (0, .ref (Γ.2.2.1 112)), (1, .int x1)]) (Nat.le_of_ble_eq_true rfl) rfl ?_
  refine g_sub [2, 3, 1, 0] rfl ?_
  exact w_MO_stands_4 X hr hk9 _ _ _ _ _ hf
section
variable {R : Room} {kc ks : Nat} {Q : State → Prop} {nL : Nat} {cc : ByteArray} {own : String} {pc : Nat} {lv lv' : List (Nat × Value)} {st : List Value}
theorem ca_MO_stands {x1 : Int32} (X : Cx Γ p R s m args c cc nL own kc ks) {idx : Nat} (hd : decode cc pc = .ok (.invokevirtual idx, 3)) (hlk : Cond.methodLink own idx y_MO_stands ∈ lw_gt) (hR : 0 + 1 ≤ R.frames ∧ 8 + (4 + 11) + 0 ≤ R.locals) (hw : (st.map fun v => v.category).sum ≤ 8) {σ σ' : Sg} {r : Int32} (hf : f_MO_stands x1 σ = some (r, σ')) (k : G Γ p l e R s m args below meth c kc ks Q nL (pc + 3) lv (.int r :: st) σ') : G Γ p l e R s m args below meth c kc ks Q nL pc lv (.int x1 :: .ref (Γ.2.2.1 112) :: st) σ :=
  g_callV (As := [.int x1]) (rest := st) X hd (c_MO_stands' hf) co_MO_stands hlk wn_MO_stands wse_MO_stands (by decide) kd_112 rfl hR rfl rfl hw k
end
set_option maxRecDepth 10000 in
theorem w_MO_caption_47 {r : Int32} {σ' : Sg} (X : Cx Γ p (z_rm 6 135) s m args c c_MO_caption 3 "CaptionTalliesModel" 0 0) (hr : meth.sig.returnType = (some .int)) (hk9 : meth.locks = false)  (x1 : Int32) (t0 : Int32) (σ : Sg) (hf : f_MO_caption_47 x1 t0 σ = some (r, σ')) : G Γ p l e (z_rm 6 135) s m args below meth c 0 0 (MQ below (Qx Γ (some (.int r)) σ') args s 0 0 (fun q : Nat => Γ.2.2.2 ≤ q)) 3 47 [(1, .int x1)] [.int t0, .ref (Γ.2.2.1 113)] σ := by
  rw [f_MO_caption_47] at hf
  refine g_iload_n X d_MO_caption_47 0 rfl ?_
  refine g_iadd X d_MO_caption_48 ?_
  obtain ⟨b1, hf⟩ := gd_some hf
  refine g_iald X d_MO_caption_49 kd_113 b1 ?_
  exact g_iret X d_MO_caption_50 hr hk9 hf
set_option maxRecDepth 10000 in
theorem w_MO_caption_32 {r : Int32} {σ' : Sg} (X : Cx Γ p (z_rm 6 135) s m args c c_MO_caption 3 "CaptionTalliesModel" 0 0) (hr : meth.sig.returnType = (some .int)) (hk9 : meth.locks = false)  (x1 : Int32) (x2 : Int32) (σ : Sg) (hf : f_MO_caption_32 x1 x2 σ = some (r, σ')) : G Γ p l e (z_rm 6 135) s m args below meth c 0 0 (MQ below (Qx Γ (some (.int r)) σ') args s 0 0 (fun q : Nat => Γ.2.2.2 ≤ q)) 3 32 [(0, .ref (Γ.2.2.1 112)), (1, .int x1), (2, .int x2)] [] σ := by
  rw [f_MO_caption_32] at hf
  refine g_aload_n X d_MO_caption_32 0 rfl ?_
  refine gf_112_0 X d_MO_caption_33 wl_MO_7 ?_
  refine g_iload_n X d_MO_caption_36 2 rfl ?_
  refine g_if_ne X d_MO_caption_37 45 (by decide) (fun q1 => ?_) (fun q1 => ?_)
  · have hf := ite_f q1 hf
    refine g_bipush X d_MO_caption_45 (v := (nI 69)) rfl ?_
    refine g_sub [1] rfl ?_
    exact w_MO_caption_47 X hr hk9 _ _ _ hf
  · have hf := ite_t q1 hf
    refine g_bipush X d_MO_caption_40 (v := (nI 9)) rfl ?_
    refine g_goto X d_MO_caption_42 47 (by decide) ?_
    refine g_sub [1] rfl ?_
    exact w_MO_caption_47 X hr hk9 _ _ _ hf
set_option maxRecDepth 10000 in
theorem w_MO_caption_61 {r : Int32} {σ' : Sg} (X : Cx Γ p (z_rm 6 135) s m args c c_MO_caption 3 "CaptionTalliesModel" 0 0) (hr : meth.sig.returnType = (some .int)) (hk9 : meth.locks = false)  (x1 : Int32) (x2 : Int32) (σ : Sg) (hf : f_MO_caption_61 x1 x2 σ = some (r, σ')) : G Γ p l e (z_rm 6 135) s m args below meth c 0 0 (MQ below (Qx Γ (some (.int r)) σ') args s 0 0 (fun q : Nat => Γ.2.2.2 ≤ q)) 3 61 [(0, .ref (Γ.2.2.1 112)), (1, .int x1), (2, .int x2)] [] σ := by
  rw [f_MO_caption_61] at hf
  refine g_aload_n X d_MO_caption_61 0 rfl ?_
  obtain ⟨r1, σ2, er1, hf⟩ := bd_some hf
  refine ca_MO_takesCores X d_MO_caption_62 wl_MO_90 ⟨Nat.le_of_ble_eq_true rfl, Nat.le_of_ble_eq_true rfl⟩ (sum8 rfl) er1 ?_
  refine g_iload_n X d_MO_caption_65 2 rfl ?_
  refine g_iconst X d_MO_caption_66 (v := (nI 3)) rfl ?_
  refine g_ic_ne X d_MO_caption_67 79 (by decide) (fun q3 => ?_) (fun q3 => ?_)
  · have hf := ite_f q3 hf
    refine g_aload_n X d_MO_caption_79 0 rfl ?_
    refine g_iload_n X d_MO_caption_80 1 rfl ?_
    obtain ⟨r4, σ5, er4, hf⟩ := bd_some hf
    refine ca_MO_links X d_MO_caption_81 wl_MO_166 ⟨Nat.le_of_ble_eq_true rfl, Nat.le_of_ble_eq_true rfl⟩ (sum8 rfl) er4 ?_
    exact g_iret X d_MO_caption_84 hr hk9 hf
  · have hf := ite_t q3 hf
    refine g_aload_n X d_MO_caption_70 0 rfl ?_
    refine gf_112_20 X d_MO_caption_71 wl_MO_61 ?_
    refine g_iload_n X d_MO_caption_74 1 rfl ?_
    obtain ⟨b6, hf⟩ := gd_some hf
    refine g_iald X d_MO_caption_75 kd_130 b6 ?_
    refine g_goto X d_MO_caption_76 84 (by decide) ?_
    exact g_iret X d_MO_caption_84 hr hk9 hf
set_option maxRecDepth 10000 in
theorem c_MO_caption' {Γ : Gm} {l : Launch} {x1 : Int32} {x2 : Int32} {σ σ' : Sg} {r : Int32} (hf : f_MO_caption x1 x2 σ = some (r, σ')) : Ctr Γ l y_MO_caption c_MO_caption 3 (some .int) 6 135 [.ref (Γ.2.2.1 112), .int x1, .int x2] σ σ' (some (.int r)) := by
  refine Ctr.of (lv := [(0, .ref (Γ.2.2.1 112)), (1, .int x1), (2, .int x2)]) (by decide +kernel) (Nat.le_of_ble_eq_true rfl) rfl ?_
  intro p e s m args below meth c X hr hk9
  have X : Cx Γ p (z_rm 6 135) s m args c c_MO_caption 3 "CaptionTalliesModel" 0 0 := X
  rw [f_MO_caption] at hf
  refine g_aload_n X d_MO_caption_0 0 rfl ?_
  refine g_iload_n X d_MO_caption_1 1 rfl ?_
  obtain ⟨r1, σ2, er1, hf⟩ := bd_some hf
  refine ca_MO_is X d_MO_caption_2 wl_MO_96 ⟨Nat.le_of_ble_eq_true rfl, Nat.le_of_ble_eq_true rfl⟩ (sum8 rfl) er1 ?_
  refine g_if_ne X d_MO_caption_5 10 (by decide) (fun q3 => ?_) (fun q3 => ?_)
  · have hf := ite_f q3 hf
    refine g_iload_n X d_MO_caption_10 2 rfl ?_
    refine g_iconst X d_MO_caption_11 (v := (nI 0)) rfl ?_
    refine g_bipush X d_MO_caption_12 (v := (nI 6)) rfl ?_
    obtain ⟨r4, σ5, er4, hf⟩ := bd_some hf
    refine ca_MO_in X d_MO_caption_14 wl_MO_74 ⟨Nat.le_of_ble_eq_true rfl, Nat.le_of_ble_eq_true rfl⟩ (sum8 rfl) er4 ?_
    refine g_if_ne X d_MO_caption_17 23 (by decide) (fun q6 => ?_) (fun q6 => ?_)
    · have hf := ite_f q6 hf
      refine g_iload_n X d_MO_caption_23 2 rfl ?_
      refine g_if_eq X d_MO_caption_24 32 (by decide) (fun q7 => ?_) (fun q7 => ?_)
      · have hf := ite_t q7 hf
        exact w_MO_caption_32 X hr hk9 _ _ _ hf
      · have hf := ite_f q7 hf
        refine g_iload_n X d_MO_caption_27 2 rfl ?_
        refine g_iconst X d_MO_caption_28 (v := (nI 2)) rfl ?_
        refine g_ic_ne X d_MO_caption_29 51 (by decide) (fun q8 => ?_) (fun q8 => ?_)
        · have hf := ite_f q8 hf
          refine g_iload_n X d_MO_caption_51 2 rfl ?_
          refine g_iconst X d_MO_caption_52 (v := (nI 3)) rfl ?_
          refine g_ic_eq X d_MO_caption_53 61 (by decide) (fun q9 => ?_) (fun q9 => ?_)
          · have hf := ite_t q9 hf
            exact w_MO_caption_61 X hr hk9 _ _ _ hf
          · have hf := ite_f q9 hf
            refine g_iload_n X d_MO_caption_56 2 rfl ?_
            refine g_iconst X d_MO_caption_57 (v := (nI 4)) rfl ?_
            refine g_ic_ne X d_MO_caption_58 85 (by decide) (fun q10 => ?_) (fun q10 => ?_)
            · have hf := ite_f q10 hf
              refine g_aload_n X d_MO_caption_85 0 rfl ?_
              obtain ⟨r11, σ12, er11, hf⟩ := bd_some hf
              refine ca_MO_works X d_MO_caption_86 wl_MO_169 ⟨Nat.le_of_ble_eq_true rfl, Nat.le_of_ble_eq_true rfl⟩ (sum8 rfl) er11 ?_
              refine g_iload_n X d_MO_caption_89 2 rfl ?_
              refine g_iconst X d_MO_caption_90 (v := (nI 1)) rfl ?_
              refine g_ic_ne X d_MO_caption_91 103 (by decide) (fun q13 => ?_) (fun q13 => ?_)
              · have hf := ite_f q13 hf
                refine g_iload_n X d_MO_caption_103 2 rfl ?_
                refine g_iconst X d_MO_caption_104 (v := (nI 5)) rfl ?_
                refine g_ic_ne X d_MO_caption_105 117 (by decide) (fun q14 => ?_) (fun q14 => ?_)
                · have hf := ite_f q14 hf
                  refine g_aload_n X d_MO_caption_117 0 rfl ?_
                  refine g_iload_n X d_MO_caption_118 1 rfl ?_
                  obtain ⟨r15, σ16, er15, hf⟩ := bd_some hf
                  refine ca_MO_stands X d_MO_caption_119 wl_MO_172 ⟨Nat.le_of_ble_eq_true rfl, Nat.le_of_ble_eq_true rfl⟩ (sum8 rfl) er15 ?_
                  exact g_iret X d_MO_caption_122 hr hk9 hf
                · have hf := ite_t q14 hf
                  refine g_aload_n X d_MO_caption_108 0 rfl ?_
                  refine gf_112_17 X d_MO_caption_109 wl_MO_52 ?_
                  refine g_iload_n X d_MO_caption_112 1 rfl ?_
                  obtain ⟨b17, hf⟩ := gd_some hf
                  refine g_iald X d_MO_caption_113 kd_127 b17 ?_
                  refine g_goto X d_MO_caption_114 122 (by decide) ?_
                  exact g_iret X d_MO_caption_122 hr hk9 hf
              · have hf := ite_t q13 hf
                refine g_aload_n X d_MO_caption_94 0 rfl ?_
                refine gf_112_7 X d_MO_caption_95 wl_MO_22 ?_
                refine g_iload_n X d_MO_caption_98 1 rfl ?_
                obtain ⟨b18, hf⟩ := gd_some hf
                refine g_iald X d_MO_caption_99 kd_117 b18 ?_
                refine g_goto X d_MO_caption_100 122 (by decide) ?_
                exact g_iret X d_MO_caption_122 hr hk9 hf
            · have hf := ite_t q10 hf
              exact w_MO_caption_61 X hr hk9 _ _ _ hf
        · have hf := ite_t q8 hf
          exact w_MO_caption_32 X hr hk9 _ _ _ hf
    · have hf := ite_t q6 hf
      refine g_bipush X d_MO_caption_20 (v := (-2)) rfl ?_
      exact g_iret X d_MO_caption_22 hr hk9 hf
  · have hf := ite_t q3 hf
    refine g_iconst X d_MO_caption_8 (v := (-1)) rfl ?_
    exact g_iret X d_MO_caption_9 hr hk9 hf
section
variable {R : Room} {kc ks : Nat} {Q : State → Prop} {nL : Nat} {cc : ByteArray} {own : String} {pc : Nat} {lv lv' : List (Nat × Value)} {st : List Value}
theorem ca_MO_caption {x1 : Int32} {x2 : Int32} (X : Cx Γ p R s m args c cc nL own kc ks) {idx : Nat} (hd : decode cc pc = .ok (.invokevirtual idx, 3)) (hlk : Cond.methodLink own idx y_MO_caption ∈ lw_gt) (hR : 6 + 1 ≤ R.frames ∧ 8 + (3 + 11) + 135 ≤ R.locals) (hw : (st.map fun v => v.category).sum ≤ 8) {σ σ' : Sg} {r : Int32} (hf : f_MO_caption x1 x2 σ = some (r, σ')) (k : G Γ p l e R s m args below meth c kc ks Q nL (pc + 3) lv (.int r :: st) σ') : G Γ p l e R s m args below meth c kc ks Q nL pc lv (.int x2 :: .int x1 :: .ref (Γ.2.2.1 112) :: st) σ :=
  g_callV (As := [.int x1, .int x2]) (rest := st) X hd (c_MO_caption' hf) co_MO_caption hlk wn_MO_caption wse_MO_caption (by decide) kd_112 rfl hR rfl rfl hw k
end
set_option maxRecDepth 10000 in
theorem c_MO_letter' {Γ : Gm} {l : Launch} {x1 : Int32} {x2 : Int32} {σ σ' : Sg} {r : Int32} (hf : f_MO_letter x1 x2 σ = some (r, σ')) : Ctr Γ l y_MO_letter c_MO_letter 3 (some .int) 2 43 [.ref (Γ.2.2.1 112), .int x1, .int x2] σ σ' (some (.int r)) := by
  refine Ctr.of (lv := [(0, .ref (Γ.2.2.1 112)), (1, .int x1), (2, .int x2)]) (by decide +kernel) (Nat.le_of_ble_eq_true rfl) rfl ?_
  intro p e s m args below meth c X hr hk9
  have X : Cx Γ p (z_rm 2 43) s m args c c_MO_letter 3 "CaptionTalliesModel" 0 0 := X
  rw [f_MO_letter] at hf
  refine g_aload_n X d_MO_letter_0 0 rfl ?_
  refine g_iload_n X d_MO_letter_1 1 rfl ?_
  obtain ⟨r1, σ2, er1, hf⟩ := bd_some hf
  refine ca_MO_is X d_MO_letter_2 wl_MO_96 ⟨Nat.le_of_ble_eq_true rfl, Nat.le_of_ble_eq_true rfl⟩ (sum8 rfl) er1 ?_
  refine g_if_ne X d_MO_letter_5 10 (by decide) (fun q3 => ?_) (fun q3 => ?_)
  · have hf := ite_f q3 hf
    refine g_iload_n X d_MO_letter_10 2 rfl ?_
    refine g_if_ge X d_MO_letter_11 17 (by decide) (fun q4 => ?_) (fun q4 => ?_)
    · have hf := ite_t q4 hf
      refine g_iload_n X d_MO_letter_17 2 rfl ?_
      refine g_aload_n X d_MO_letter_18 0 rfl ?_
      refine gf_112_0 X d_MO_letter_19 wl_MO_7 ?_
      refine g_bipush X d_MO_letter_22 (v := (nI 69)) rfl ?_
      refine g_iload_n X d_MO_letter_24 1 rfl ?_
      refine g_iadd X d_MO_letter_25 ?_
      obtain ⟨b5, hf⟩ := gd_some hf
      refine g_iald X d_MO_letter_26 kd_113 b5 ?_
      refine g_ic_ge X d_MO_letter_27 39 (by decide) (fun q6 => ?_) (fun q6 => ?_)
      · have hf := ite_t q6 hf
        refine g_bipush X d_MO_letter_39 (v := (-5)) rfl ?_
        exact g_iret X d_MO_letter_41 hr hk9 hf
      · have hf := ite_f q6 hf
        refine g_aload_n X d_MO_letter_30 0 rfl ?_
        refine g_iload_n X d_MO_letter_31 1 rfl ?_
        refine g_iload_n X d_MO_letter_32 2 rfl ?_
        obtain ⟨r7, σ8, er7, hf⟩ := bd_some hf
        refine ca_MO_sign X d_MO_letter_33 wl_MO_82 ⟨Nat.le_of_ble_eq_true rfl, Nat.le_of_ble_eq_true rfl⟩ (sum8 rfl) er7 ?_
        refine g_goto X d_MO_letter_36 41 (by decide) ?_
        exact g_iret X d_MO_letter_41 hr hk9 hf
    · have hf := ite_f q4 hf
      refine g_bipush X d_MO_letter_14 (v := (-2)) rfl ?_
      exact g_iret X d_MO_letter_16 hr hk9 hf
  · have hf := ite_t q3 hf
    refine g_iconst X d_MO_letter_8 (v := (-1)) rfl ?_
    exact g_iret X d_MO_letter_9 hr hk9 hf
section
variable {R : Room} {kc ks : Nat} {Q : State → Prop} {nL : Nat} {cc : ByteArray} {own : String} {pc : Nat} {lv lv' : List (Nat × Value)} {st : List Value}
theorem ca_MO_letter {x1 : Int32} {x2 : Int32} (X : Cx Γ p R s m args c cc nL own kc ks) {idx : Nat} (hd : decode cc pc = .ok (.invokevirtual idx, 3)) (hlk : Cond.methodLink own idx y_MO_letter ∈ lw_gt) (hR : 2 + 1 ≤ R.frames ∧ 8 + (3 + 11) + 43 ≤ R.locals) (hw : (st.map fun v => v.category).sum ≤ 8) {σ σ' : Sg} {r : Int32} (hf : f_MO_letter x1 x2 σ = some (r, σ')) (k : G Γ p l e R s m args below meth c kc ks Q nL (pc + 3) lv (.int r :: st) σ') : G Γ p l e R s m args below meth c kc ks Q nL pc lv (.int x2 :: .int x1 :: .ref (Γ.2.2.1 112) :: st) σ :=
  g_callV (As := [.int x1, .int x2]) (rest := st) X hd (c_MO_letter' hf) co_MO_letter hlk wn_MO_letter wse_MO_letter (by decide) kd_112 rfl hR rfl rfl hw k
end
set_option maxRecDepth 10000 in
theorem w_MO_members_4 {r : Int32} {σ' : Sg} (X : Cx Γ p (z_rm 0 0) s m args c c_MO_members 4 "CaptionTalliesModel" 0 0) (hr : meth.sig.returnType = (some .int)) (hk9 : meth.locks = false) : ∀ (n9 : Nat) (x1 : Int32) (x2 : Int32) (x3 : Int32) (σ : Sg), f_MO_members_4 n9 x1 x2 x3 σ = some (r, σ') → G Γ p l e (z_rm 0 0) s m args below meth c 0 0 (MQ below (Qx Γ (some (.int r)) σ') args s 0 0 (fun q : Nat => Γ.2.2.2 ≤ q)) 4 4 [(0, .ref (Γ.2.2.1 112)), (1, .int x1), (2, .int x2), (3, .int x3)] [] σ := by
  intro n9
  induction n9 with
  | zero => intro x1 x2 x3 σ hf; cases hf
  | succ n9 ih =>
    intro x1 x2 x3 σ hf
    rw [f_MO_members_4] at hf
    refine g_iload_n X d_MO_members_4 3 rfl ?_
    refine g_aload_n X d_MO_members_5 0 rfl ?_
    refine gf_112_0 X d_MO_members_6 wl_MO_7 ?_
    refine g_iconst X d_MO_members_9 (v := (nI 0)) rfl ?_
    obtain ⟨b1, hf⟩ := gd_some hf
    refine g_iald X d_MO_members_10 kd_113 b1 ?_
    refine g_ic_ge X d_MO_members_11 38 (by decide) (fun q2 => ?_) (fun q2 => ?_)
    · have hf := ite_t q2 hf
      refine g_iload_n X d_MO_members_38 2 rfl ?_
      exact g_iret X d_MO_members_39 hr hk9 hf
    · have hf := ite_f q2 hf
      refine g_iload_n X d_MO_members_14 2 rfl ?_
      refine g_aload_n X d_MO_members_15 0 rfl ?_
      refine gf_112_7 X d_MO_members_16 wl_MO_22 ?_
      refine g_iload_n X d_MO_members_19 3 rfl ?_
      obtain ⟨b3, hf⟩ := gd_some hf
      refine g_iald X d_MO_members_20 kd_117 b3 ?_
      refine g_iload_n X d_MO_members_21 1 rfl ?_
      refine g_ic_ne X d_MO_members_22 29 (by decide) (fun q4 => ?_) (fun q4 => ?_)
      · have hf := ite_f q4 hf
        refine g_iconst X d_MO_members_29 (v := (nI 0)) rfl ?_
        refine g_iadd X d_MO_members_30 ?_
        obtain ⟨v5, ev5, hf⟩ := lt_ex hf
        refine g_top ev5 ?_
        refine g_istore_n X d_MO_members_31 rfl (lv' := [(2, .int v5), (0, .ref (Γ.2.2.1 112)), (1, .int x1), (3, .int x3)]) (Nat.le_of_ble_eq_true rfl) rfl ?_
        refine g_iinc X d_MO_members_32 (j := 3) (lv' := [(3, .int (x3 + (nI 1))), (2, .int v5), (0, .ref (Γ.2.2.1 112)), (1, .int x1)]) rfl rfl (Nat.le_of_ble_eq_true rfl) rfl ?_
        refine g_goto X d_MO_members_35 4 (by decide) ?_
        refine g_sub [2, 3, 1, 0] rfl ?_
        exact ih _ _ _ _ hf
      · have hf := ite_t q4 hf
        refine g_iconst X d_MO_members_25 (v := (nI 1)) rfl ?_
        refine g_goto X d_MO_members_26 30 (by decide) ?_
        refine g_iadd X d_MO_members_30 ?_
        obtain ⟨v6, ev6, hf⟩ := lt_ex hf
        refine g_top ev6 ?_
        refine g_istore_n X d_MO_members_31 rfl (lv' := [(2, .int v6), (0, .ref (Γ.2.2.1 112)), (1, .int x1), (3, .int x3)]) (Nat.le_of_ble_eq_true rfl) rfl ?_
        refine g_iinc X d_MO_members_32 (j := 3) (lv' := [(3, .int (x3 + (nI 1))), (2, .int v6), (0, .ref (Γ.2.2.1 112)), (1, .int x1)]) rfl rfl (Nat.le_of_ble_eq_true rfl) rfl ?_
        refine g_goto X d_MO_members_35 4 (by decide) ?_
        refine g_sub [2, 3, 1, 0] rfl ?_
        exact ih _ _ _ _ hf
set_option maxRecDepth 10000 in
theorem c_MO_members' {Γ : Gm} {l : Launch} {x1 : Int32} {σ σ' : Sg} {r : Int32} (hf : f_MO_members x1 σ = some (r, σ')) : Ctr Γ l y_MO_members c_MO_members 4 (some .int) 0 0 [.ref (Γ.2.2.1 112), .int x1] σ σ' (some (.int r)) := by
  refine Ctr.of (lv := [(0, .ref (Γ.2.2.1 112)), (1, .int x1)]) (by decide +kernel) (Nat.le_of_ble_eq_true rfl) rfl ?_
  intro p e s m args below meth c X hr hk9
  have X : Cx Γ p (z_rm 0 0) s m args c c_MO_members 4 "CaptionTalliesModel" 0 0 := X
  rw [f_MO_members] at hf
  refine g_iconst X d_MO_members_0 (v := (nI 0)) rfl ?_
  refine g_istore_n X d_MO_members_1 rfl (lv' := [(2, .int (nI 0)), (0, .ref (Γ.2.2.1 112)), (1, .int x1)]) (Nat.le_of_ble_eq_true rfl) rfl ?_
  refine g_iconst X d_MO_members_2 (v := (nI 0)) rfl ?_
  refine g_istore_n X d_MO_members_3 rfl (lv' := [(3, .int (nI 0)), (2, .int (nI 0)), (0, .ref (Γ.2.2.1 112)), (1, .int x1)]) (Nat.le_of_ble_eq_true rfl) rfl ?_
  refine g_sub [2, 3, 1, 0] rfl ?_
  exact w_MO_members_4 X hr hk9 _ _ _ _ _ hf
section
variable {R : Room} {kc ks : Nat} {Q : State → Prop} {nL : Nat} {cc : ByteArray} {own : String} {pc : Nat} {lv lv' : List (Nat × Value)} {st : List Value}
theorem ca_MO_members {x1 : Int32} (X : Cx Γ p R s m args c cc nL own kc ks) {idx : Nat} (hd : decode cc pc = .ok (.invokevirtual idx, 3)) (hlk : Cond.methodLink own idx y_MO_members ∈ lw_gt) (hR : 0 + 1 ≤ R.frames ∧ 8 + (4 + 11) + 0 ≤ R.locals) (hw : (st.map fun v => v.category).sum ≤ 8) {σ σ' : Sg} {r : Int32} (hf : f_MO_members x1 σ = some (r, σ')) (k : G Γ p l e R s m args below meth c kc ks Q nL (pc + 3) lv (.int r :: st) σ') : G Γ p l e R s m args below meth c kc ks Q nL pc lv (.int x1 :: .ref (Γ.2.2.1 112) :: st) σ :=
  g_callV (As := [.int x1]) (rest := st) X hd (c_MO_members' hf) co_MO_members hlk wn_MO_members wse_MO_members (by decide) kd_112 rfl hR rfl rfl hw k
end
set_option maxRecDepth 10000 in
theorem c_MO_group' {Γ : Gm} {l : Launch} {x1 : Int32} {x2 : Int32} {σ σ' : Sg} {r : Int32} (hf : f_MO_group x1 x2 σ = some (r, σ')) : Ctr Γ l y_MO_group c_MO_group 4 (some .int) 6 135 [.ref (Γ.2.2.1 112), .int x1, .int x2] σ σ' (some (.int r)) := by
  refine Ctr.of (lv := [(0, .ref (Γ.2.2.1 112)), (1, .int x1), (2, .int x2)]) (by decide +kernel) (Nat.le_of_ble_eq_true rfl) rfl ?_
  intro p e s m args below meth c X hr hk9
  have X : Cx Γ p (z_rm 6 135) s m args c c_MO_group 4 "CaptionTalliesModel" 0 0 := X
  rw [f_MO_group] at hf
  refine g_aload_n X d_MO_group_0 0 rfl ?_
  refine g_iload_n X d_MO_group_1 1 rfl ?_
  obtain ⟨r1, σ2, er1, hf⟩ := bd_some hf
  refine ca_MO_is X d_MO_group_2 wl_MO_96 ⟨Nat.le_of_ble_eq_true rfl, Nat.le_of_ble_eq_true rfl⟩ (sum8 rfl) er1 ?_
  refine g_if_ne X d_MO_group_5 10 (by decide) (fun q3 => ?_) (fun q3 => ?_)
  · have hf := ite_f q3 hf
    refine g_iload_n X d_MO_group_10 2 rfl ?_
    refine g_iconst X d_MO_group_11 (v := (nI 0)) rfl ?_
    refine g_bipush X d_MO_group_12 (v := (nI 7)) rfl ?_
    obtain ⟨r4, σ5, er4, hf⟩ := bd_some hf
    refine ca_MO_in X d_MO_group_14 wl_MO_74 ⟨Nat.le_of_ble_eq_true rfl, Nat.le_of_ble_eq_true rfl⟩ (sum8 rfl) er4 ?_
    refine g_if_ne X d_MO_group_17 23 (by decide) (fun q6 => ?_) (fun q6 => ?_)
    · have hf := ite_f q6 hf
      refine g_aload_n X d_MO_group_23 0 rfl ?_
      obtain ⟨r7, σ8, er7, hf⟩ := bd_some hf
      refine ca_MO_works X d_MO_group_24 wl_MO_169 ⟨Nat.le_of_ble_eq_true rfl, Nat.le_of_ble_eq_true rfl⟩ (sum8 rfl) er7 ?_
      refine g_aload_n X d_MO_group_27 0 rfl ?_
      refine gf_112_7 X d_MO_group_28 wl_MO_22 ?_
      refine g_iload_n X d_MO_group_31 1 rfl ?_
      obtain ⟨b9, hf⟩ := gd_some hf
      refine g_iald X d_MO_group_32 kd_117 b9 ?_
      obtain ⟨v10, ev10, hf⟩ := lt_ex hf
      refine g_top ev10 ?_
      refine g_istore_n X d_MO_group_33 rfl (lv' := [(3, .int v10), (0, .ref (Γ.2.2.1 112)), (1, .int x1), (2, .int x2)]) (Nat.le_of_ble_eq_true rfl) rfl ?_
      refine g_iload_n X d_MO_group_34 3 rfl ?_
      refine g_iconst X d_MO_group_35 (v := (nI 4)) rfl ?_
      refine g_ic_ge X d_MO_group_36 86 (by decide) (fun q11 => ?_) (fun q11 => ?_)
      · have hf := ite_t q11 hf
        refine g_iload_n X d_MO_group_86 3 rfl ?_
        refine g_iconst X d_MO_group_87 (v := (nI 4)) rfl ?_
        refine g_ic_ne X d_MO_group_88 103 (by decide) (fun q12 => ?_) (fun q12 => ?_)
        · have hf := ite_f q12 hf
          refine g_iload_n X d_MO_group_103 3 rfl ?_
          refine g_iconst X d_MO_group_104 (v := (nI 5)) rfl ?_
          refine g_ic_ne X d_MO_group_105 117 (by decide) (fun q13 => ?_) (fun q13 => ?_)
          · have hf := ite_f q13 hf
            refine g_iload_n X d_MO_group_117 3 rfl ?_
            refine g_bipush X d_MO_group_118 (v := (nI 6)) rfl ?_
            refine g_ic_ne X d_MO_group_120 131 (by decide) (fun q14 => ?_) (fun q14 => ?_)
            · have hf := ite_f q14 hf
              refine g_aload_n X d_MO_group_131 1 rfl ?_
              refine gf_112_11 X d_MO_group_132 wl_MO_34 ?_
              refine g_iload_n X d_MO_group_135 0 rfl ?_
              obtain ⟨b15, hf⟩ := gd_some hf
              refine g_iald X d_MO_group_136 kd_121 b15 ?_
              refine g_if_ge X d_MO_group_137 145 (by decide) (fun q16 => ?_) (fun q16 => ?_)
              · have hf := ite_t q16 hf
                refine g_aload_n X d_MO_group_145 1 rfl ?_
                refine gf_112_11 X d_MO_group_146 wl_MO_34 ?_
                refine g_iload_n X d_MO_group_149 0 rfl ?_
                obtain ⟨b17, hf⟩ := gd_some hf
                refine g_iald X d_MO_group_150 kd_121 b17 ?_
                exact g_iret X d_MO_group_151 hr hk9 hf
              · have hf := ite_f q16 hf
                refine g_bipush X d_MO_group_140 (v := (-5)) rfl ?_
                refine g_goto X d_MO_group_142 151 (by decide) ?_
                exact g_iret X d_MO_group_151 hr hk9 hf
            · have hf := ite_t q14 hf
              refine g_aload_n X d_MO_group_123 1 rfl ?_
              refine g_iload_n X d_MO_group_124 0 rfl ?_
              obtain ⟨r18, σ19, er18, hf⟩ := bd_some hf
              refine ca_MO_getsGroup X d_MO_group_125 wl_MO_178 ⟨Nat.le_of_ble_eq_true rfl, Nat.le_of_ble_eq_true rfl⟩ (sum8 rfl) er18 ?_
              refine g_goto X d_MO_group_128 151 (by decide) ?_
              exact g_iret X d_MO_group_151 hr hk9 hf
          · have hf := ite_t q13 hf
            refine g_aload_n X d_MO_group_108 1 rfl ?_
            refine gf_112_15 X d_MO_group_109 wl_MO_46 ?_
            refine g_iload_n X d_MO_group_112 0 rfl ?_
            obtain ⟨b20, hf⟩ := gd_some hf
            refine g_iald X d_MO_group_113 kd_125 b20 ?_
            refine g_goto X d_MO_group_114 151 (by decide) ?_
            exact g_iret X d_MO_group_151 hr hk9 hf
        · have hf := ite_t q12 hf
          refine g_sipush X d_MO_group_91 (v := (nI 1000)) rfl ?_
          refine g_aload_n X d_MO_group_94 1 rfl ?_
          refine g_iload_n X d_MO_group_95 0 rfl ?_
          obtain ⟨r21, σ22, er21, hf⟩ := bd_some hf
          refine ca_MO_tally X d_MO_group_96 wl_MO_124 ⟨Nat.le_of_ble_eq_true rfl, Nat.le_of_ble_eq_true rfl⟩ (sum8 rfl) er21 ?_
          refine g_iadd X d_MO_group_99 ?_
          refine g_goto X d_MO_group_100 151 (by decide) ?_
          exact g_iret X d_MO_group_151 hr hk9 hf
      · have hf := ite_f q11 hf
        refine g_iload_n X d_MO_group_39 3 rfl ?_
        refine g_if_ne X d_MO_group_40 51 (by decide) (fun q23 => ?_) (fun q23 => ?_)
        · have hf := ite_f q23 hf
          refine g_iload_n X d_MO_group_51 3 rfl ?_
          refine g_iconst X d_MO_group_52 (v := (nI 1)) rfl ?_
          refine g_ic_ne X d_MO_group_53 65 (by decide) (fun q24 => ?_) (fun q24 => ?_)
          · have hf := ite_f q24 hf
            refine g_iload_n X d_MO_group_65 3 rfl ?_
            refine g_iconst X d_MO_group_66 (v := (nI 2)) rfl ?_
            refine g_ic_ne X d_MO_group_67 79 (by decide) (fun q25 => ?_) (fun q25 => ?_)
            · have hf := ite_f q25 hf
              refine g_aload_n X d_MO_group_79 1 rfl ?_
              refine gf_112_10 X d_MO_group_80 wl_MO_31 ?_
              refine g_iload_n X d_MO_group_83 0 rfl ?_
              obtain ⟨b26, hf⟩ := gd_some hf
              refine g_iald X d_MO_group_84 kd_120 b26 ?_
              exact g_iret X d_MO_group_85 hr hk9 hf
            · have hf := ite_t q25 hf
              refine g_aload_n X d_MO_group_70 1 rfl ?_
              refine gf_112_9 X d_MO_group_71 wl_MO_28 ?_
              refine g_iload_n X d_MO_group_74 0 rfl ?_
              obtain ⟨b27, hf⟩ := gd_some hf
              refine g_iald X d_MO_group_75 kd_119 b27 ?_
              refine g_goto X d_MO_group_76 85 (by decide) ?_
              exact g_iret X d_MO_group_85 hr hk9 hf
          · have hf := ite_t q24 hf
            refine g_aload_n X d_MO_group_56 1 rfl ?_
            refine gf_112_8 X d_MO_group_57 wl_MO_25 ?_
            refine g_iload_n X d_MO_group_60 0 rfl ?_
            obtain ⟨b28, hf⟩ := gd_some hf
            refine g_iald X d_MO_group_61 kd_118 b28 ?_
            refine g_goto X d_MO_group_62 85 (by decide) ?_
            exact g_iret X d_MO_group_85 hr hk9 hf
        · have hf := ite_t q23 hf
          refine g_aload_n X d_MO_group_43 1 rfl ?_
          refine g_iload_n X d_MO_group_44 0 rfl ?_
          obtain ⟨r29, σ30, er29, hf⟩ := bd_some hf
          refine ca_MO_members X d_MO_group_45 wl_MO_175 ⟨Nat.le_of_ble_eq_true rfl, Nat.le_of_ble_eq_true rfl⟩ (sum8 rfl) er29 ?_
          refine g_goto X d_MO_group_48 85 (by decide) ?_
          exact g_iret X d_MO_group_85 hr hk9 hf
    · have hf := ite_t q6 hf
      refine g_bipush X d_MO_group_20 (v := (-2)) rfl ?_
      exact g_iret X d_MO_group_22 hr hk9 hf
  · have hf := ite_t q3 hf
    refine g_iconst X d_MO_group_8 (v := (-1)) rfl ?_
    exact g_iret X d_MO_group_9 hr hk9 hf
section
variable {R : Room} {kc ks : Nat} {Q : State → Prop} {nL : Nat} {cc : ByteArray} {own : String} {pc : Nat} {lv lv' : List (Nat × Value)} {st : List Value}
theorem ca_MO_group {x1 : Int32} {x2 : Int32} (X : Cx Γ p R s m args c cc nL own kc ks) {idx : Nat} (hd : decode cc pc = .ok (.invokevirtual idx, 3)) (hlk : Cond.methodLink own idx y_MO_group ∈ lw_gt) (hR : 6 + 1 ≤ R.frames ∧ 8 + (4 + 11) + 135 ≤ R.locals) (hw : (st.map fun v => v.category).sum ≤ 8) {σ σ' : Sg} {r : Int32} (hf : f_MO_group x1 x2 σ = some (r, σ')) (k : G Γ p l e R s m args below meth c kc ks Q nL (pc + 3) lv (.int r :: st) σ') : G Γ p l e R s m args below meth c kc ks Q nL pc lv (.int x2 :: .int x1 :: .ref (Γ.2.2.1 112) :: st) σ :=
  g_callV (As := [.int x1, .int x2]) (rest := st) X hd (c_MO_group' hf) co_MO_group hlk wn_MO_group wse_MO_group (by decide) kd_112 rfl hR rfl rfl hw k
end
set_option maxRecDepth 10000 in
theorem c_MO_judged' {Γ : Gm} {l : Launch} {x1 : Int32} {x2 : Int32} {x3 : Int32} {σ σ' : Sg} {r : Int32} (hf : f_MO_judged x1 x2 x3 σ = some (r, σ')) : Ctr Γ l y_MO_judged c_MO_judged 5 (some .int) 4 89 [.ref (Γ.2.2.1 112), .int x1, .int x2, .int x3] σ σ' (some (.int r)) := by
  refine Ctr.of (lv := [(0, .ref (Γ.2.2.1 112)), (1, .int x1), (2, .int x2), (3, .int x3)]) (by decide +kernel) (Nat.le_of_ble_eq_true rfl) rfl ?_
  intro p e s m args below meth c X hr hk9
  have X : Cx Γ p (z_rm 4 89) s m args c c_MO_judged 5 "CaptionTalliesModel" 0 0 := X
  rw [f_MO_judged] at hf
  refine g_iload_n X d_MO_judged_0 1 rfl ?_
  refine g_iconst X d_MO_judged_1 (v := (nI 0)) rfl ?_
  refine g_iconst X d_MO_judged_2 (v := (nI 2)) rfl ?_
  obtain ⟨r1, σ2, er1, hf⟩ := bd_some hf
  refine ca_MO_in X d_MO_judged_3 wl_MO_74 ⟨Nat.le_of_ble_eq_true rfl, Nat.le_of_ble_eq_true rfl⟩ (sum8 rfl) er1 ?_
  refine g_if_eq X d_MO_judged_6 17 (by decide) (fun q3 => ?_) (fun q3 => ?_)
  · have hf := ite_t q3 hf
    refine g_iconst X d_MO_judged_17 (v := (-1)) rfl ?_
    exact g_iret X d_MO_judged_18 hr hk9 hf
  · have hf := ite_f q3 hf
    refine g_aload_n X d_MO_judged_9 0 rfl ?_
    refine g_iload_n X d_MO_judged_10 2 rfl ?_
    obtain ⟨r4, σ5, er4, hf⟩ := bd_some hf
    refine ca_MO_is X d_MO_judged_11 wl_MO_96 ⟨Nat.le_of_ble_eq_true rfl, Nat.le_of_ble_eq_true rfl⟩ (sum8 rfl) er4 ?_
    refine g_if_ne X d_MO_judged_14 19 (by decide) (fun q6 => ?_) (fun q6 => ?_)
    · have hf := ite_f q6 hf
      refine g_iload_n X d_MO_judged_19 3 rfl ?_
      refine g_iconst X d_MO_judged_20 (v := (nI 0)) rfl ?_
      refine g_iconst X d_MO_judged_21 (v := (nI 2)) rfl ?_
      obtain ⟨r7, σ8, er7, hf⟩ := bd_some hf
      refine ca_MO_in X d_MO_judged_22 wl_MO_74 ⟨Nat.le_of_ble_eq_true rfl, Nat.le_of_ble_eq_true rfl⟩ (sum8 rfl) er7 ?_
      refine g_if_ne X d_MO_judged_25 31 (by decide) (fun q9 => ?_) (fun q9 => ?_)
      · have hf := ite_f q9 hf
        refine g_aload_n X d_MO_judged_31 0 rfl ?_
        refine gf_112_0 X d_MO_judged_32 wl_MO_7 ?_
        refine g_sipush X d_MO_judged_35 (v := (nI 1325)) rfl ?_
        refine g_bipush X d_MO_judged_38 (v := (nI 20)) rfl ?_
        refine g_iload_n X d_MO_judged_40 1 rfl ?_
        refine g_imul X d_MO_judged_41 ?_
        refine g_iadd X d_MO_judged_42 ?_
        refine g_iload_n X d_MO_judged_43 2 rfl ?_
        refine g_iadd X d_MO_judged_44 ?_
        obtain ⟨b10, hf⟩ := gd_some hf
        refine g_iald X d_MO_judged_45 kd_113 b10 ?_
        obtain ⟨v11, ev11, hf⟩ := lt_ex hf
        refine g_top ev11 ?_
        refine g_istore X d_MO_judged_46 (lv' := [(4, .int v11), (0, .ref (Γ.2.2.1 112)), (1, .int x1), (2, .int x2), (3, .int x3)]) (Nat.le_of_ble_eq_true rfl) rfl ?_
        refine g_iload_n X d_MO_judged_48 4 rfl ?_
        refine g_if_ne X d_MO_judged_49 67 (by decide) (fun q12 => ?_) (fun q12 => ?_)
        · have hf := ite_f q12 hf
          refine g_aload_n X d_MO_judged_67 1 rfl ?_
          obtain ⟨r13, σ14, er13, hf⟩ := bd_some hf
          refine ca_MO_heads X d_MO_judged_68 wl_MO_112 ⟨Nat.le_of_ble_eq_true rfl, Nat.le_of_ble_eq_true rfl⟩ (sum8 rfl) er13 ?_
          refine g_iload_n X d_MO_judged_71 4 rfl ?_
          refine g_iconst X d_MO_judged_72 (v := (nI 1)) rfl ?_
          refine g_ic_ne X d_MO_judged_73 90 (by decide) (fun q15 => ?_) (fun q15 => ?_)
          · have hf := ite_f q15 hf
            refine g_aload_n X d_MO_judged_90 1 rfl ?_
            refine g_iload_n X d_MO_judged_91 2 rfl ?_
            refine g_aload_n X d_MO_judged_92 1 rfl ?_
            refine gf_112_7 X d_MO_judged_93 wl_MO_22 ?_
            refine g_iload_n X d_MO_judged_96 3 rfl ?_
            obtain ⟨b16, hf⟩ := gd_some hf
            refine g_iald X d_MO_judged_97 kd_117 b16 ?_
            obtain ⟨r17, σ18, er17, hf⟩ := bd_some hf
            refine ca_MO_rank X d_MO_judged_98 wl_MO_118 ⟨Nat.le_of_ble_eq_true rfl, Nat.le_of_ble_eq_true rfl⟩ (sum8 rfl) er17 ?_
            exact g_iret X d_MO_judged_101 hr hk9 hf
          · have hf := ite_t q15 hf
            refine g_aload_n X d_MO_judged_76 1 rfl ?_
            refine g_iload_n X d_MO_judged_77 2 rfl ?_
            refine g_aload_n X d_MO_judged_78 1 rfl ?_
            refine gf_112_7 X d_MO_judged_79 wl_MO_22 ?_
            refine g_iload_n X d_MO_judged_82 3 rfl ?_
            obtain ⟨b19, hf⟩ := gd_some hf
            refine g_iald X d_MO_judged_83 kd_117 b19 ?_
            obtain ⟨r20, σ21, er20, hf⟩ := bd_some hf
            refine ca_MO_most X d_MO_judged_84 wl_MO_106 ⟨Nat.le_of_ble_eq_true rfl, Nat.le_of_ble_eq_true rfl⟩ (sum8 rfl) er20 ?_
            refine g_goto X d_MO_judged_87 101 (by decide) ?_
            exact g_iret X d_MO_judged_101 hr hk9 hf
        · have hf := ite_t q12 hf
          refine g_iload X d_MO_judged_52 0 rfl ?_
          refine g_if_ne X d_MO_judged_54 62 (by decide) (fun q22 => ?_) (fun q22 => ?_)
          · have hf := ite_f q22 hf
            refine g_iload X d_MO_judged_62 0 rfl ?_
            refine g_iconst X d_MO_judged_64 (v := (nI 1)) rfl ?_
            refine g_isub X d_MO_judged_65 ?_
            exact g_iret X d_MO_judged_66 hr hk9 hf
          · have hf := ite_t q22 hf
            refine g_bipush X d_MO_judged_57 (v := (-5)) rfl ?_
            refine g_goto X d_MO_judged_59 66 (by decide) ?_
            exact g_iret X d_MO_judged_66 hr hk9 hf
      · have hf := ite_t q9 hf
        refine g_bipush X d_MO_judged_28 (v := (-2)) rfl ?_
        exact g_iret X d_MO_judged_30 hr hk9 hf
    · have hf := ite_t q6 hf
      refine g_iconst X d_MO_judged_17 (v := (-1)) rfl ?_
      exact g_iret X d_MO_judged_18 hr hk9 hf
section
variable {R : Room} {kc ks : Nat} {Q : State → Prop} {nL : Nat} {cc : ByteArray} {own : String} {pc : Nat} {lv lv' : List (Nat × Value)} {st : List Value}
theorem ca_MO_judged {x1 : Int32} {x2 : Int32} {x3 : Int32} (X : Cx Γ p R s m args c cc nL own kc ks) {idx : Nat} (hd : decode cc pc = .ok (.invokevirtual idx, 3)) (hlk : Cond.methodLink own idx y_MO_judged ∈ lw_gt) (hR : 4 + 1 ≤ R.frames ∧ 8 + (5 + 11) + 89 ≤ R.locals) (hw : (st.map fun v => v.category).sum ≤ 8) {σ σ' : Sg} {r : Int32} (hf : f_MO_judged x1 x2 x3 σ = some (r, σ')) (k : G Γ p l e R s m args below meth c kc ks Q nL (pc + 3) lv (.int r :: st) σ') : G Γ p l e R s m args below meth c kc ks Q nL pc lv (.int x3 :: .int x2 :: .int x1 :: .ref (Γ.2.2.1 112) :: st) σ :=
  g_callV (As := [.int x1, .int x2, .int x3]) (rest := st) X hd (c_MO_judged' hf) co_MO_judged hlk wn_MO_judged wse_MO_judged (by decide) kd_112 rfl hR rfl rfl hw k
end
set_option maxRecDepth 10000 in
theorem w_MO_ballot_65 {r : Int32} {σ' : Sg} (X : Cx Γ p (z_rm 4 89) s m args c c_MO_ballot 5 "CaptionTalliesModel" 0 0) (hr : meth.sig.returnType = (some .int)) (hk9 : meth.locks = false)  (t0 : Int32) (σ : Sg) (hf : f_MO_ballot_65 t0 σ = some (r, σ')) : G Γ p l e (z_rm 4 89) s m args below meth c 0 0 (MQ below (Qx Γ (some (.int r)) σ') args s 0 0 (fun q : Nat => Γ.2.2.2 ≤ q)) 5 65 [] [.int t0] σ := by
  rw [f_MO_ballot_65] at hf
  refine g_istore X d_MO_ballot_65 (lv' := [(4, .int t0)]) (Nat.le_of_ble_eq_true rfl) rfl ?_
  refine g_iload X d_MO_ballot_67 0 rfl ?_
  refine g_if_ge X d_MO_ballot_69 77 (by decide) (fun q1 => ?_) (fun q1 => ?_)
  · have hf := ite_t q1 hf
    refine g_iload X d_MO_ballot_77 0 rfl ?_
    exact g_iret X d_MO_ballot_79 hr hk9 hf
  · have hf := ite_f q1 hf
    refine g_bipush X d_MO_ballot_72 (v := (-5)) rfl ?_
    refine g_goto X d_MO_ballot_74 79 (by decide) ?_
    exact g_iret X d_MO_ballot_79 hr hk9 hf
set_option maxRecDepth 10000 in
theorem c_MO_ballot' {Γ : Gm} {l : Launch} {x1 : Int32} {x2 : Int32} {x3 : Int32} {σ σ' : Sg} {r : Int32} (hf : f_MO_ballot x1 x2 x3 σ = some (r, σ')) : Ctr Γ l y_MO_ballot c_MO_ballot 5 (some .int) 4 89 [.ref (Γ.2.2.1 112), .int x1, .int x2, .int x3] σ σ' (some (.int r)) := by
  refine Ctr.of (lv := [(0, .ref (Γ.2.2.1 112)), (1, .int x1), (2, .int x2), (3, .int x3)]) (by decide +kernel) (Nat.le_of_ble_eq_true rfl) rfl ?_
  intro p e s m args below meth c X hr hk9
  have X : Cx Γ p (z_rm 4 89) s m args c c_MO_ballot 5 "CaptionTalliesModel" 0 0 := X
  rw [f_MO_ballot] at hf
  refine g_iload_n X d_MO_ballot_0 1 rfl ?_
  refine g_iconst X d_MO_ballot_1 (v := (nI 0)) rfl ?_
  refine g_bipush X d_MO_ballot_2 (v := (nI 11)) rfl ?_
  obtain ⟨r1, σ2, er1, hf⟩ := bd_some hf
  refine ca_MO_in X d_MO_ballot_4 wl_MO_74 ⟨Nat.le_of_ble_eq_true rfl, Nat.le_of_ble_eq_true rfl⟩ (sum8 rfl) er1 ?_
  refine g_if_ne X d_MO_ballot_7 12 (by decide) (fun q3 => ?_) (fun q3 => ?_)
  · have hf := ite_f q3 hf
    refine g_iload_n X d_MO_ballot_12 2 rfl ?_
    refine g_iconst X d_MO_ballot_13 (v := (nI 0)) rfl ?_
    refine g_iconst X d_MO_ballot_14 (v := (nI 2)) rfl ?_
    obtain ⟨r4, σ5, er4, hf⟩ := bd_some hf
    refine ca_MO_in X d_MO_ballot_15 wl_MO_74 ⟨Nat.le_of_ble_eq_true rfl, Nat.le_of_ble_eq_true rfl⟩ (sum8 rfl) er4 ?_
    refine g_if_ne X d_MO_ballot_18 24 (by decide) (fun q6 => ?_) (fun q6 => ?_)
    · have hf := ite_f q6 hf
      refine g_aload_n X d_MO_ballot_24 0 rfl ?_
      obtain ⟨r7, σ8, er7, hf⟩ := bd_some hf
      refine ca_MO_heads X d_MO_ballot_25 wl_MO_112 ⟨Nat.le_of_ble_eq_true rfl, Nat.le_of_ble_eq_true rfl⟩ (sum8 rfl) er7 ?_
      refine g_aload_n X d_MO_ballot_28 0 rfl ?_
      obtain ⟨r9, σ10, er9, hf⟩ := bd_some hf
      refine ca_MO_counts X d_MO_ballot_29 wl_MO_115 ⟨Nat.le_of_ble_eq_true rfl, Nat.le_of_ble_eq_true rfl⟩ (sum8 rfl) er9 ?_
      refine g_iload_n X d_MO_ballot_32 3 rfl ?_
      refine g_if_eq X d_MO_ballot_33 49 (by decide) (fun q11 => ?_) (fun q11 => ?_)
      · have hf := ite_t q11 hf
        refine g_aload_n X d_MO_ballot_49 0 rfl ?_
        refine gf_112_0 X d_MO_ballot_50 wl_MO_7 ?_
        refine g_sipush X d_MO_ballot_53 (v := (nI 1289)) rfl ?_
        refine g_iconst X d_MO_ballot_56 (v := (nI 3)) rfl ?_
        refine g_iload_n X d_MO_ballot_57 1 rfl ?_
        refine g_imul X d_MO_ballot_58 ?_
        refine g_iadd X d_MO_ballot_59 ?_
        refine g_iload_n X d_MO_ballot_60 2 rfl ?_
        refine g_iadd X d_MO_ballot_61 ?_
        obtain ⟨b12, hf⟩ := gd_some hf
        refine g_iald X d_MO_ballot_62 kd_113 b12 ?_
        refine g_iconst X d_MO_ballot_63 (v := (nI 1)) rfl ?_
        refine g_isub X d_MO_ballot_64 ?_
        refine g_sub [] rfl ?_
        exact w_MO_ballot_65 X hr hk9 _ _ hf
      · have hf := ite_f q11 hf
        refine g_aload_n X d_MO_ballot_36 0 rfl ?_
        refine gf_112_18 X d_MO_ballot_37 wl_MO_55 ?_
        refine g_iconst X d_MO_ballot_40 (v := (nI 3)) rfl ?_
        refine g_iload_n X d_MO_ballot_41 1 rfl ?_
        refine g_imul X d_MO_ballot_42 ?_
        refine g_iload_n X d_MO_ballot_43 2 rfl ?_
        refine g_iadd X d_MO_ballot_44 ?_
        obtain ⟨b13, hf⟩ := gd_some hf
        refine g_iald X d_MO_ballot_45 kd_128 b13 ?_
        refine g_goto X d_MO_ballot_46 65 (by decide) ?_
        refine g_sub [] rfl ?_
        exact w_MO_ballot_65 X hr hk9 _ _ hf
    · have hf := ite_t q6 hf
      refine g_bipush X d_MO_ballot_21 (v := (-2)) rfl ?_
      exact g_iret X d_MO_ballot_23 hr hk9 hf
  · have hf := ite_t q3 hf
    refine g_iconst X d_MO_ballot_10 (v := (-1)) rfl ?_
    exact g_iret X d_MO_ballot_11 hr hk9 hf
section
variable {R : Room} {kc ks : Nat} {Q : State → Prop} {nL : Nat} {cc : ByteArray} {own : String} {pc : Nat} {lv lv' : List (Nat × Value)} {st : List Value}
theorem ca_MO_ballot {x1 : Int32} {x2 : Int32} {x3 : Int32} (X : Cx Γ p R s m args c cc nL own kc ks) {idx : Nat} (hd : decode cc pc = .ok (.invokevirtual idx, 3)) (hlk : Cond.methodLink own idx y_MO_ballot ∈ lw_gt) (hR : 4 + 1 ≤ R.frames ∧ 8 + (5 + 11) + 89 ≤ R.locals) (hw : (st.map fun v => v.category).sum ≤ 8) {σ σ' : Sg} {r : Int32} (hf : f_MO_ballot x1 x2 x3 σ = some (r, σ')) (k : G Γ p l e R s m args below meth c kc ks Q nL (pc + 3) lv (.int r :: st) σ') : G Γ p l e R s m args below meth c kc ks Q nL pc lv (.int x3 :: .int x2 :: .int x1 :: .ref (Γ.2.2.1 112) :: st) σ :=
  g_callV (As := [.int x1, .int x2, .int x3]) (rest := st) X hd (c_MO_ballot' hf) co_MO_ballot hlk wn_MO_ballot wse_MO_ballot (by decide) kd_112 rfl hR rfl rfl hw k
end
set_option maxRecDepth 10000 in
theorem c_MO_ranked' {Γ : Gm} {l : Launch} {x1 : Int32} {σ σ' : Sg} {r : Int32} (hf : f_MO_ranked x1 σ = some (r, σ')) : Ctr Γ l y_MO_ranked c_MO_ranked 2 (some .int) 6 135 [.ref (Γ.2.2.1 112), .int x1] σ σ' (some (.int r)) := by
  refine Ctr.of (lv := [(0, .ref (Γ.2.2.1 112)), (1, .int x1)]) (by decide +kernel) (Nat.le_of_ble_eq_true rfl) rfl ?_
  intro p e s m args below meth c X hr hk9
  have X : Cx Γ p (z_rm 6 135) s m args c c_MO_ranked 2 "CaptionTalliesModel" 0 0 := X
  rw [f_MO_ranked] at hf
  refine g_iload_n X d_MO_ranked_0 1 rfl ?_
  refine g_if_ge X d_MO_ranked_1 7 (by decide) (fun q1 => ?_) (fun q1 => ?_)
  · have hf := ite_t q1 hf
    refine g_aload_n X d_MO_ranked_7 0 rfl ?_
    obtain ⟨r2, σ3, er2, hf⟩ := bd_some hf
    refine ca_MO_works X d_MO_ranked_8 wl_MO_169 ⟨Nat.le_of_ble_eq_true rfl, Nat.le_of_ble_eq_true rfl⟩ (sum8 rfl) er2 ?_
    refine g_iload_n X d_MO_ranked_11 1 rfl ?_
    refine g_aload_n X d_MO_ranked_12 0 rfl ?_
    refine gf_112_23 X d_MO_ranked_13 wl_MO_93 ?_
    refine g_ic_ge X d_MO_ranked_16 28 (by decide) (fun q4 => ?_) (fun q4 => ?_)
    · have hf := ite_t q4 hf
      refine g_bipush X d_MO_ranked_28 (v := (-5)) rfl ?_
      exact g_iret X d_MO_ranked_30 hr hk9 hf
    · have hf := ite_f q4 hf
      refine g_aload_n X d_MO_ranked_19 0 rfl ?_
      refine gf_112_16 X d_MO_ranked_20 wl_MO_49 ?_
      refine g_iload_n X d_MO_ranked_23 1 rfl ?_
      obtain ⟨b5, hf⟩ := gd_some hf
      refine g_iald X d_MO_ranked_24 kd_126 b5 ?_
      refine g_goto X d_MO_ranked_25 30 (by decide) ?_
      exact g_iret X d_MO_ranked_30 hr hk9 hf
  · have hf := ite_f q1 hf
    refine g_bipush X d_MO_ranked_4 (v := (-2)) rfl ?_
    exact g_iret X d_MO_ranked_6 hr hk9 hf
section
variable {R : Room} {kc ks : Nat} {Q : State → Prop} {nL : Nat} {cc : ByteArray} {own : String} {pc : Nat} {lv lv' : List (Nat × Value)} {st : List Value}
theorem ca_MO_ranked {x1 : Int32} (X : Cx Γ p R s m args c cc nL own kc ks) {idx : Nat} (hd : decode cc pc = .ok (.invokevirtual idx, 3)) (hlk : Cond.methodLink own idx y_MO_ranked ∈ lw_gt) (hR : 6 + 1 ≤ R.frames ∧ 8 + (2 + 11) + 135 ≤ R.locals) (hw : (st.map fun v => v.category).sum ≤ 8) {σ σ' : Sg} {r : Int32} (hf : f_MO_ranked x1 σ = some (r, σ')) (k : G Γ p l e R s m args below meth c kc ks Q nL (pc + 3) lv (.int r :: st) σ') : G Γ p l e R s m args below meth c kc ks Q nL pc lv (.int x1 :: .ref (Γ.2.2.1 112) :: st) σ :=
  g_callV (As := [.int x1]) (rest := st) X hd (c_MO_ranked' hf) co_MO_ranked hlk wn_MO_ranked wse_MO_ranked (by decide) kd_112 rfl hR rfl rfl hw k
end
set_option maxRecDepth 10000 in
theorem c_MO_round' {Γ : Gm} {l : Launch} {x1 : Int32} {x2 : Int32} {σ σ' : Sg} {r : Int32} (hf : f_MO_round x1 x2 σ = some (r, σ')) : Ctr Γ l y_MO_round c_MO_round 3 (some .int) 6 135 [.ref (Γ.2.2.1 112), .int x1, .int x2] σ σ' (some (.int r)) := by
  refine Ctr.of (lv := [(0, .ref (Γ.2.2.1 112)), (1, .int x1), (2, .int x2)]) (by decide +kernel) (Nat.le_of_ble_eq_true rfl) rfl ?_
  intro p e s m args below meth c X hr hk9
  have X : Cx Γ p (z_rm 6 135) s m args c c_MO_round 3 "CaptionTalliesModel" 0 0 := X
  rw [f_MO_round] at hf
  refine g_iload_n X d_MO_round_0 1 rfl ?_
  refine g_if_lt X d_MO_round_1 13 (by decide) (fun q1 => ?_) (fun q1 => ?_)
  · have hf := ite_t q1 hf
    refine g_bipush X d_MO_round_13 (v := (-2)) rfl ?_
    exact g_iret X d_MO_round_15 hr hk9 hf
  · have hf := ite_f q1 hf
    refine g_iload_n X d_MO_round_4 2 rfl ?_
    refine g_iconst X d_MO_round_5 (v := (nI 0)) rfl ?_
    refine g_iconst X d_MO_round_6 (v := (nI 2)) rfl ?_
    obtain ⟨r2, σ3, er2, hf⟩ := bd_some hf
    refine ca_MO_in X d_MO_round_7 wl_MO_74 ⟨Nat.le_of_ble_eq_true rfl, Nat.le_of_ble_eq_true rfl⟩ (sum8 rfl) er2 ?_
    refine g_if_ne X d_MO_round_10 16 (by decide) (fun q4 => ?_) (fun q4 => ?_)
    · have hf := ite_f q4 hf
      refine g_aload_n X d_MO_round_16 0 rfl ?_
      obtain ⟨r5, σ6, er5, hf⟩ := bd_some hf
      refine ca_MO_works X d_MO_round_17 wl_MO_169 ⟨Nat.le_of_ble_eq_true rfl, Nat.le_of_ble_eq_true rfl⟩ (sum8 rfl) er5 ?_
      refine g_iload_n X d_MO_round_20 1 rfl ?_
      refine g_aload_n X d_MO_round_21 0 rfl ?_
      refine gf_112_23 X d_MO_round_22 wl_MO_93 ?_
      refine g_iconst X d_MO_round_25 (v := (nI 1)) rfl ?_
      refine g_isub X d_MO_round_26 ?_
      refine g_ic_lt X d_MO_round_27 33 (by decide) (fun q7 => ?_) (fun q7 => ?_)
      · have hf := ite_t q7 hf
        refine g_iload_n X d_MO_round_33 2 rfl ?_
        refine g_if_ne X d_MO_round_34 46 (by decide) (fun q8 => ?_) (fun q8 => ?_)
        · have hf := ite_f q8 hf
          refine g_iload_n X d_MO_round_46 2 rfl ?_
          refine g_iconst X d_MO_round_47 (v := (nI 1)) rfl ?_
          refine g_ic_ne X d_MO_round_48 60 (by decide) (fun q9 => ?_) (fun q9 => ?_)
          · have hf := ite_f q9 hf
            refine g_aload_n X d_MO_round_60 0 rfl ?_
            refine gf_112_14 X d_MO_round_61 wl_MO_43 ?_
            refine g_iload_n X d_MO_round_64 1 rfl ?_
            obtain ⟨b10, hf⟩ := gd_some hf
            refine g_iald X d_MO_round_65 kd_124 b10 ?_
            exact g_iret X d_MO_round_66 hr hk9 hf
          · have hf := ite_t q9 hf
            refine g_aload_n X d_MO_round_51 0 rfl ?_
            refine gf_112_13 X d_MO_round_52 wl_MO_40 ?_
            refine g_iload_n X d_MO_round_55 1 rfl ?_
            obtain ⟨b11, hf⟩ := gd_some hf
            refine g_iald X d_MO_round_56 kd_123 b11 ?_
            refine g_goto X d_MO_round_57 66 (by decide) ?_
            exact g_iret X d_MO_round_66 hr hk9 hf
        · have hf := ite_t q8 hf
          refine g_aload_n X d_MO_round_37 0 rfl ?_
          refine gf_112_12 X d_MO_round_38 wl_MO_37 ?_
          refine g_iload_n X d_MO_round_41 1 rfl ?_
          obtain ⟨b12, hf⟩ := gd_some hf
          refine g_iald X d_MO_round_42 kd_122 b12 ?_
          refine g_goto X d_MO_round_43 66 (by decide) ?_
          exact g_iret X d_MO_round_66 hr hk9 hf
      · have hf := ite_f q7 hf
        refine g_bipush X d_MO_round_30 (v := (-5)) rfl ?_
        exact g_iret X d_MO_round_32 hr hk9 hf
    · have hf := ite_t q4 hf
      refine g_bipush X d_MO_round_13 (v := (-2)) rfl ?_
      exact g_iret X d_MO_round_15 hr hk9 hf
section
variable {R : Room} {kc ks : Nat} {Q : State → Prop} {nL : Nat} {cc : ByteArray} {own : String} {pc : Nat} {lv lv' : List (Nat × Value)} {st : List Value}
theorem ca_MO_round {x1 : Int32} {x2 : Int32} (X : Cx Γ p R s m args c cc nL own kc ks) {idx : Nat} (hd : decode cc pc = .ok (.invokevirtual idx, 3)) (hlk : Cond.methodLink own idx y_MO_round ∈ lw_gt) (hR : 6 + 1 ≤ R.frames ∧ 8 + (3 + 11) + 135 ≤ R.locals) (hw : (st.map fun v => v.category).sum ≤ 8) {σ σ' : Sg} {r : Int32} (hf : f_MO_round x1 x2 σ = some (r, σ')) (k : G Γ p l e R s m args below meth c kc ks Q nL (pc + 3) lv (.int r :: st) σ') : G Γ p l e R s m args below meth c kc ks Q nL pc lv (.int x2 :: .int x1 :: .ref (Γ.2.2.1 112) :: st) σ :=
  g_callV (As := [.int x1, .int x2]) (rest := st) X hd (c_MO_round' hf) co_MO_round hlk wn_MO_round wse_MO_round (by decide) kd_112 rfl hR rfl rfl hw k
end
set_option maxRecDepth 10000 in
theorem c_MO_distance' {Γ : Gm} {l : Launch} {x1 : Int32} {x2 : Int32} {σ σ' : Sg} {r : Int32} (hf : f_MO_distance x1 x2 σ = some (r, σ')) : Ctr Γ l y_MO_distance c_MO_distance 3 (some .int) 3 65 [.ref (Γ.2.2.1 112), .int x1, .int x2] σ σ' (some (.int r)) := by
  refine Ctr.of (lv := [(0, .ref (Γ.2.2.1 112)), (1, .int x1), (2, .int x2)]) (by decide +kernel) (Nat.le_of_ble_eq_true rfl) rfl ?_
  intro p e s m args below meth c X hr hk9
  have X : Cx Γ p (z_rm 3 65) s m args c c_MO_distance 3 "CaptionTalliesModel" 0 0 := X
  rw [f_MO_distance] at hf
  refine g_aload_n X d_MO_distance_0 0 rfl ?_
  refine g_iload_n X d_MO_distance_1 1 rfl ?_
  obtain ⟨r1, σ2, er1, hf⟩ := bd_some hf
  refine ca_MO_is X d_MO_distance_2 wl_MO_96 ⟨Nat.le_of_ble_eq_true rfl, Nat.le_of_ble_eq_true rfl⟩ (sum8 rfl) er1 ?_
  refine g_if_eq X d_MO_distance_5 16 (by decide) (fun q3 => ?_) (fun q3 => ?_)
  · have hf := ite_t q3 hf
    refine g_iconst X d_MO_distance_16 (v := (-1)) rfl ?_
    exact g_iret X d_MO_distance_17 hr hk9 hf
  · have hf := ite_f q3 hf
    refine g_aload_n X d_MO_distance_8 0 rfl ?_
    refine g_iload_n X d_MO_distance_9 2 rfl ?_
    obtain ⟨r4, σ5, er4, hf⟩ := bd_some hf
    refine ca_MO_is X d_MO_distance_10 wl_MO_96 ⟨Nat.le_of_ble_eq_true rfl, Nat.le_of_ble_eq_true rfl⟩ (sum8 rfl) er4 ?_
    refine g_if_ne X d_MO_distance_13 18 (by decide) (fun q6 => ?_) (fun q6 => ?_)
    · have hf := ite_f q6 hf
      refine g_aload_n X d_MO_distance_18 0 rfl ?_
      obtain ⟨r7, σ8, er7, hf⟩ := bd_some hf
      refine ca_MO_takesCores X d_MO_distance_19 wl_MO_90 ⟨Nat.le_of_ble_eq_true rfl, Nat.le_of_ble_eq_true rfl⟩ (sum8 rfl) er7 ?_
      refine g_aload_n X d_MO_distance_22 0 rfl ?_
      refine g_iload_n X d_MO_distance_23 1 rfl ?_
      refine g_iload_n X d_MO_distance_24 2 rfl ?_
      obtain ⟨r9, σ10, er9, hf⟩ := bd_some hf
      refine ca_MO_far X d_MO_distance_25 wl_MO_181 ⟨Nat.le_of_ble_eq_true rfl, Nat.le_of_ble_eq_true rfl⟩ (sum8 rfl) er9 ?_
      exact g_iret X d_MO_distance_28 hr hk9 hf
    · have hf := ite_t q6 hf
      refine g_iconst X d_MO_distance_16 (v := (-1)) rfl ?_
      exact g_iret X d_MO_distance_17 hr hk9 hf
section
variable {R : Room} {kc ks : Nat} {Q : State → Prop} {nL : Nat} {cc : ByteArray} {own : String} {pc : Nat} {lv lv' : List (Nat × Value)} {st : List Value}
theorem ca_MO_distance {x1 : Int32} {x2 : Int32} (X : Cx Γ p R s m args c cc nL own kc ks) {idx : Nat} (hd : decode cc pc = .ok (.invokevirtual idx, 3)) (hlk : Cond.methodLink own idx y_MO_distance ∈ lw_gt) (hR : 3 + 1 ≤ R.frames ∧ 8 + (3 + 11) + 65 ≤ R.locals) (hw : (st.map fun v => v.category).sum ≤ 8) {σ σ' : Sg} {r : Int32} (hf : f_MO_distance x1 x2 σ = some (r, σ')) (k : G Γ p l e R s m args below meth c kc ks Q nL (pc + 3) lv (.int r :: st) σ') : G Γ p l e R s m args below meth c kc ks Q nL pc lv (.int x2 :: .int x1 :: .ref (Γ.2.2.1 112) :: st) σ :=
  g_callV (As := [.int x1, .int x2]) (rest := st) X hd (c_MO_distance' hf) co_MO_distance hlk wn_MO_distance wse_MO_distance (by decide) kd_112 rfl hR rfl rfl hw k
end
set_option maxRecDepth 10000 in
theorem w_MO_near_51 {K34 : Int32 → Int32 → Int32 → Int32 → Sg → Option (Int32 × Sg)} {r : Int32} {σ' : Sg} (X : Cx Γ p (z_rm 4 89) s m args c c_MO_near 8 "CaptionTalliesModel" 0 0) (hr : meth.sig.returnType = (some .int)) (hk9 : meth.locks = false) (hK34 : ∀ (x2 : Int32) (x3 : Int32) (x4 : Int32) (x5 : Int32) (σ : Sg), K34 x2 x3 x4 x5 σ = some (r, σ') → G Γ p l e (z_rm 4 89) s m args below meth c 0 0 (MQ below (Qx Γ (some (.int r)) σ') args s 0 0 (fun q : Nat => Γ.2.2.2 ≤ q)) 8 34 [(0, .ref (Γ.2.2.1 112)), (2, .int x2), (3, .int x3), (4, .int x4), (5, .int x5)] [] σ) : ∀ (n9 : Nat) (x2 : Int32) (x3 : Int32) (x4 : Int32) (x5 : Int32) (x6 : Int32) (σ : Sg), f_MO_near_51 K34 n9 x2 x3 x4 x5 x6 σ = some (r, σ') → G Γ p l e (z_rm 4 89) s m args below meth c 0 0 (MQ below (Qx Γ (some (.int r)) σ') args s 0 0 (fun q : Nat => Γ.2.2.2 ≤ q)) 8 51 [(0, .ref (Γ.2.2.1 112)), (2, .int x2), (3, .int x3), (4, .int x4), (5, .int x5), (6, .int x6)] [] σ := by
  intro n9
  induction n9 with
  | zero => intro x2 x3 x4 x5 x6 σ hf; cases hf
  | succ n9 ih =>
    intro x2 x3 x4 x5 x6 σ hf
    rw [f_MO_near_51] at hf
    refine g_iload X d_MO_near_51 5 rfl ?_
    refine g_aload_n X d_MO_near_53 0 rfl ?_
    refine gf_112_0 X d_MO_near_54 wl_MO_7 ?_
    refine g_iconst X d_MO_near_57 (v := (nI 0)) rfl ?_
    obtain ⟨b1, hf⟩ := gd_some hf
    refine g_iald X d_MO_near_58 kd_113 b1 ?_
    refine g_ic_ge X d_MO_near_59 175 (by decide) (fun q2 => ?_) (fun q2 => ?_)
    · have hf := ite_t q2 hf
      refine g_iinc X d_MO_near_175 (j := 4) (lv' := [(5, .int (x5 + (nI 1))), (0, .ref (Γ.2.2.1 112)), (2, .int x2), (3, .int x3), (4, .int x4), (6, .int x6)]) rfl rfl (Nat.le_of_ble_eq_true rfl) rfl ?_
      refine g_goto X d_MO_near_178 34 (by decide) ?_
      refine g_sub [1, 2, 3, 4, 0] rfl ?_
      exact hK34 _ _ _ _ _ hf
    · have hf := ite_f q2 hf
      refine g_aload_n X d_MO_near_62 0 rfl ?_
      refine gf_112_20 X d_MO_near_63 wl_MO_61 ?_
      refine g_iload X d_MO_near_66 4 rfl ?_
      obtain ⟨b3, hf⟩ := gd_some hf
      refine g_iald X d_MO_near_68 kd_130 b3 ?_
      refine g_aload_n X d_MO_near_69 0 rfl ?_
      refine gf_112_20 X d_MO_near_70 wl_MO_61 ?_
      refine g_iload X d_MO_near_73 5 rfl ?_
      obtain ⟨b4, hf⟩ := gd_some hf
      refine g_iald X d_MO_near_75 kd_130 b4 ?_
      refine g_isub X d_MO_near_76 ?_
      obtain ⟨v5, ev5, hf⟩ := lt_ex hf
      refine g_top ev5 ?_
      refine g_istore X d_MO_near_77 (lv' := [(7, .int v5), (0, .ref (Γ.2.2.1 112)), (2, .int x2), (3, .int x3), (4, .int x4), (5, .int x5), (6, .int x6)]) (Nat.le_of_ble_eq_true rfl) rfl ?_
      refine g_aload_n X d_MO_near_79 1 rfl ?_
      refine g_iload X d_MO_near_80 5 rfl ?_
      obtain ⟨r6, σ7, er6, hf⟩ := bd_some hf
      refine ca_MO_is X d_MO_near_82 wl_MO_96 ⟨Nat.le_of_ble_eq_true rfl, Nat.le_of_ble_eq_true rfl⟩ (sum8 rfl) er6 ?_
      refine g_if_eq X d_MO_near_85 169 (by decide) (fun q8 => ?_) (fun q8 => ?_)
      · have hf := ite_t q8 hf
        refine g_iinc X d_MO_near_169 (j := 6) (lv' := [(6, .int (x6 + (nI 1))), (7, .int v5), (0, .ref (Γ.2.2.1 112)), (2, .int x2), (3, .int x3), (4, .int x4), (5, .int x5)]) rfl rfl (Nat.le_of_ble_eq_true rfl) rfl ?_
        refine g_goto X d_MO_near_172 51 (by decide) ?_
        refine g_sub [2, 3, 4, 5, 6, 0] rfl ?_
        exact ih _ _ _ _ _ _ hf
      · have hf := ite_f q8 hf
        refine g_aload_n X d_MO_near_88 1 rfl ?_
        refine g_iload X d_MO_near_89 6 rfl ?_
        obtain ⟨r9, σ10, er9, hf⟩ := bd_some hf
        refine ca_MO_is X d_MO_near_91 wl_MO_96 ⟨Nat.le_of_ble_eq_true rfl, Nat.le_of_ble_eq_true rfl⟩ (sum8 rfl) er9 ?_
        refine g_if_eq X d_MO_near_94 169 (by decide) (fun q11 => ?_) (fun q11 => ?_)
        · have hf := ite_t q11 hf
          refine g_iinc X d_MO_near_169 (j := 6) (lv' := [(6, .int (x6 + (nI 1))), (7, .int v5), (0, .ref (Γ.2.2.1 112)), (2, .int x2), (3, .int x3), (4, .int x4), (5, .int x5)]) rfl rfl (Nat.le_of_ble_eq_true rfl) rfl ?_
          refine g_goto X d_MO_near_172 51 (by decide) ?_
          refine g_sub [2, 3, 4, 5, 6, 0] rfl ?_
          exact ih _ _ _ _ _ _ hf
        · have hf := ite_f q11 hf
          refine g_aload_n X d_MO_near_97 1 rfl ?_
          refine gf_112_7 X d_MO_near_98 wl_MO_22 ?_
          refine g_iload X d_MO_near_101 5 rfl ?_
          obtain ⟨b12, hf⟩ := gd_some hf
          refine g_iald X d_MO_near_103 kd_117 b12 ?_
          refine g_aload_n X d_MO_near_104 1 rfl ?_
          refine gf_112_7 X d_MO_near_105 wl_MO_22 ?_
          refine g_iload X d_MO_near_108 6 rfl ?_
          obtain ⟨b13, hf⟩ := gd_some hf
          refine g_iald X d_MO_near_110 kd_117 b13 ?_
          refine g_ic_eq X d_MO_near_111 169 (by decide) (fun q14 => ?_) (fun q14 => ?_)
          · have hf := ite_t q14 hf
            refine g_iinc X d_MO_near_169 (j := 6) (lv' := [(6, .int (x6 + (nI 1))), (7, .int v5), (0, .ref (Γ.2.2.1 112)), (2, .int x2), (3, .int x3), (4, .int x4), (5, .int x5)]) rfl rfl (Nat.le_of_ble_eq_true rfl) rfl ?_
            refine g_goto X d_MO_near_172 51 (by decide) ?_
            refine g_sub [2, 3, 4, 5, 6, 0] rfl ?_
            exact ih _ _ _ _ _ _ hf
          · have hf := ite_f q14 hf
            refine g_iload X d_MO_near_114 0 rfl ?_
            refine g_iload X d_MO_near_116 4 rfl ?_
            refine g_ineg X d_MO_near_118 ?_
            refine g_iload X d_MO_near_119 4 rfl ?_
            obtain ⟨r15, σ16, er15, hf⟩ := bd_some hf
            refine ca_MO_in X d_MO_near_121 wl_MO_74 ⟨Nat.le_of_ble_eq_true rfl, Nat.le_of_ble_eq_true rfl⟩ (sum8 rfl) er15 ?_
            refine g_if_eq X d_MO_near_124 169 (by decide) (fun q17 => ?_) (fun q17 => ?_)
            · have hf := ite_t q17 hf
              refine g_iinc X d_MO_near_169 (j := 6) (lv' := [(6, .int (x6 + (nI 1))), (7, .int v5), (0, .ref (Γ.2.2.1 112)), (2, .int x2), (3, .int x3), (4, .int x4), (5, .int x5)]) rfl rfl (Nat.le_of_ble_eq_true rfl) rfl ?_
              refine g_goto X d_MO_near_172 51 (by decide) ?_
              refine g_sub [2, 3, 4, 5, 6, 0] rfl ?_
              exact ih _ _ _ _ _ _ hf
            · have hf := ite_f q17 hf
              refine g_aload_n X d_MO_near_127 1 rfl ?_
              refine g_iload X d_MO_near_128 5 rfl ?_
              refine g_iload X d_MO_near_130 6 rfl ?_
              obtain ⟨r18, σ19, er18, hf⟩ := bd_some hf
              refine ca_MO_far X d_MO_near_132 wl_MO_181 ⟨Nat.le_of_ble_eq_true rfl, Nat.le_of_ble_eq_true rfl⟩ (sum8 rfl) er18 ?_
              refine g_iload X d_MO_near_135 4 rfl ?_
              refine g_ic_ne X d_MO_near_137 169 (by decide) (fun q20 => ?_) (fun q20 => ?_)
              · have hf := ite_f q20 hf
                refine g_iinc X d_MO_near_169 (j := 6) (lv' := [(6, .int (x6 + (nI 1))), (7, .int v5), (0, .ref (Γ.2.2.1 112)), (2, .int x2), (3, .int x3), (4, .int x4), (5, .int x5)]) rfl rfl (Nat.le_of_ble_eq_true rfl) rfl ?_
                refine g_goto X d_MO_near_172 51 (by decide) ?_
                refine g_sub [2, 3, 4, 5, 6, 0] rfl ?_
                exact ih _ _ _ _ _ _ hf
              · have hf := ite_t q20 hf
                refine g_iload_n X d_MO_near_140 3 rfl ?_
                refine g_if_ne X d_MO_near_141 166 (by decide) (fun q21 => ?_) (fun q21 => ?_)
                · have hf := ite_f q21 hf
                  refine g_iinc X d_MO_near_166 (j := 3) (lv' := [(3, .int (x3 + (-1))), (7, .int v5), (0, .ref (Γ.2.2.1 112)), (2, .int x2), (4, .int x4), (5, .int x5), (6, .int x6)]) rfl rfl (Nat.le_of_ble_eq_true rfl) rfl ?_
                  refine g_iinc X d_MO_near_169 (j := 6) (lv' := [(6, .int (x6 + (nI 1))), (3, .int (x3 + (-1))), (7, .int v5), (0, .ref (Γ.2.2.1 112)), (2, .int x2), (4, .int x4), (5, .int x5)]) rfl rfl (Nat.le_of_ble_eq_true rfl) rfl ?_
                  refine g_goto X d_MO_near_172 51 (by decide) ?_
                  refine g_sub [3, 4, 1, 5, 6, 0] rfl ?_
                  exact ih _ _ _ _ _ _ hf
                · have hf := ite_t q21 hf
                  refine g_iload_n X d_MO_near_144 2 rfl ?_
                  refine g_if_ne X d_MO_near_145 153 (by decide) (fun q22 => ?_) (fun q22 => ?_)
                  · have hf := ite_f q22 hf
                    refine g_iload_n X d_MO_near_153 2 rfl ?_
                    refine g_iconst X d_MO_near_154 (v := (nI 1)) rfl ?_
                    refine g_ic_ne X d_MO_near_155 163 (by decide) (fun q23 => ?_) (fun q23 => ?_)
                    · have hf := ite_f q23 hf
                      refine g_iload X d_MO_near_163 4 rfl ?_
                      exact g_iret X d_MO_near_165 hr hk9 hf
                    · have hf := ite_t q23 hf
                      refine g_iload X d_MO_near_158 6 rfl ?_
                      refine g_goto X d_MO_near_160 165 (by decide) ?_
                      exact g_iret X d_MO_near_165 hr hk9 hf
                  · have hf := ite_t q22 hf
                    refine g_iload X d_MO_near_148 5 rfl ?_
                    refine g_goto X d_MO_near_150 165 (by decide) ?_
                    exact g_iret X d_MO_near_165 hr hk9 hf
set_option maxRecDepth 10000 in
theorem w_MO_near_34 {K25 : Int32 → Int32 → Int32 → Sg → Option (Int32 × Sg)} {r : Int32} {σ' : Sg} (X : Cx Γ p (z_rm 4 89) s m args c c_MO_near 8 "CaptionTalliesModel" 0 0) (hr : meth.sig.returnType = (some .int)) (hk9 : meth.locks = false) (hK25 : ∀ (x2 : Int32) (x3 : Int32) (x4 : Int32) (σ : Sg), K25 x2 x3 x4 σ = some (r, σ') → G Γ p l e (z_rm 4 89) s m args below meth c 0 0 (MQ below (Qx Γ (some (.int r)) σ') args s 0 0 (fun q : Nat => Γ.2.2.2 ≤ q)) 8 25 [(0, .ref (Γ.2.2.1 112)), (2, .int x2), (3, .int x3), (4, .int x4)] [] σ) : ∀ (n9 : Nat) (x2 : Int32) (x3 : Int32) (x4 : Int32) (x5 : Int32) (σ : Sg), f_MO_near_34 K25 n9 x2 x3 x4 x5 σ = some (r, σ') → G Γ p l e (z_rm 4 89) s m args below meth c 0 0 (MQ below (Qx Γ (some (.int r)) σ') args s 0 0 (fun q : Nat => Γ.2.2.2 ≤ q)) 8 34 [(0, .ref (Γ.2.2.1 112)), (2, .int x2), (3, .int x3), (4, .int x4), (5, .int x5)] [] σ := by
  intro n9
  induction n9 with
  | zero => intro x2 x3 x4 x5 σ hf; cases hf
  | succ n9 ih =>
    intro x2 x3 x4 x5 σ hf
    rw [f_MO_near_34] at hf
    refine g_iload X d_MO_near_34 4 rfl ?_
    refine g_aload_n X d_MO_near_36 0 rfl ?_
    refine gf_112_0 X d_MO_near_37 wl_MO_7 ?_
    refine g_iconst X d_MO_near_40 (v := (nI 0)) rfl ?_
    obtain ⟨b1, hf⟩ := gd_some hf
    refine g_iald X d_MO_near_41 kd_113 b1 ?_
    refine g_ic_ge X d_MO_near_42 181 (by decide) (fun q2 => ?_) (fun q2 => ?_)
    · have hf := ite_t q2 hf
      refine g_iinc X d_MO_near_181 (j := 3) (lv' := [(4, .int (x4 + (nI 1))), (0, .ref (Γ.2.2.1 112)), (2, .int x2), (3, .int x3), (5, .int x5)]) rfl rfl (Nat.le_of_ble_eq_true rfl) rfl ?_
      refine g_goto X d_MO_near_184 25 (by decide) ?_
      refine g_sub [1, 2, 3, 0] rfl ?_
      exact hK25 _ _ _ _ hf
    · have hf := ite_f q2 hf
      refine g_iload X d_MO_near_45 4 rfl ?_
      refine g_iconst X d_MO_near_47 (v := (nI 1)) rfl ?_
      refine g_iadd X d_MO_near_48 ?_
      obtain ⟨v3, ev3, hf⟩ := lt_ex hf
      refine g_top ev3 ?_
      refine g_istore X d_MO_near_49 (lv' := [(6, .int v3), (0, .ref (Γ.2.2.1 112)), (2, .int x2), (3, .int x3), (4, .int x4), (5, .int x5)]) (Nat.le_of_ble_eq_true rfl) rfl ?_
      refine g_sub [1, 2, 3, 4, 5, 0] rfl ?_
      exact w_MO_near_51 X hr hk9 ih _ _ _ _ _ _ _ hf
set_option maxRecDepth 10000 in
theorem w_MO_near_25 {r : Int32} {σ' : Sg} (X : Cx Γ p (z_rm 4 89) s m args c c_MO_near 8 "CaptionTalliesModel" 0 0) (hr : meth.sig.returnType = (some .int)) (hk9 : meth.locks = false) : ∀ (n9 : Nat) (x2 : Int32) (x3 : Int32) (x4 : Int32) (σ : Sg), f_MO_near_25 n9 x2 x3 x4 σ = some (r, σ') → G Γ p l e (z_rm 4 89) s m args below meth c 0 0 (MQ below (Qx Γ (some (.int r)) σ') args s 0 0 (fun q : Nat => Γ.2.2.2 ≤ q)) 8 25 [(0, .ref (Γ.2.2.1 112)), (2, .int x2), (3, .int x3), (4, .int x4)] [] σ := by
  intro n9
  induction n9 with
  | zero => intro x2 x3 x4 σ hf; cases hf
  | succ n9 ih =>
    intro x2 x3 x4 σ hf
    rw [f_MO_near_25] at hf
    refine g_iload X d_MO_near_25 3 rfl ?_
    refine g_iconst X d_MO_near_27 (v := (nI 3)) rfl ?_
    refine g_ic_gt X d_MO_near_28 187 (by decide) (fun q1 => ?_) (fun q1 => ?_)
    · have hf := ite_t q1 hf
      refine g_bipush X d_MO_near_187 (v := (-5)) rfl ?_
      exact g_iret X d_MO_near_189 hr hk9 hf
    · have hf := ite_f q1 hf
      refine g_iconst X d_MO_near_31 (v := (nI 0)) rfl ?_
      refine g_istore X d_MO_near_32 (lv' := [(5, .int (nI 0)), (0, .ref (Γ.2.2.1 112)), (2, .int x2), (3, .int x3), (4, .int x4)]) (Nat.le_of_ble_eq_true rfl) rfl ?_
      refine g_sub [1, 2, 3, 4, 0] rfl ?_
      exact w_MO_near_34 X hr hk9 ih _ _ _ _ _ _ hf
set_option maxRecDepth 10000 in
theorem c_MO_near' {Γ : Gm} {l : Launch} {x1 : Int32} {x2 : Int32} {σ σ' : Sg} {r : Int32} (hf : f_MO_near x1 x2 σ = some (r, σ')) : Ctr Γ l y_MO_near c_MO_near 8 (some .int) 4 89 [.ref (Γ.2.2.1 112), .int x1, .int x2] σ σ' (some (.int r)) := by
  refine Ctr.of (lv := [(0, .ref (Γ.2.2.1 112)), (1, .int x1), (2, .int x2)]) (by decide +kernel) (Nat.le_of_ble_eq_true rfl) rfl ?_
  intro p e s m args below meth c X hr hk9
  have X : Cx Γ p (z_rm 4 89) s m args c c_MO_near 8 "CaptionTalliesModel" 0 0 := X
  rw [f_MO_near] at hf
  refine g_iload_n X d_MO_near_0 1 rfl ?_
  refine g_if_lt X d_MO_near_1 13 (by decide) (fun q1 => ?_) (fun q1 => ?_)
  · have hf := ite_t q1 hf
    refine g_bipush X d_MO_near_13 (v := (-2)) rfl ?_
    exact g_iret X d_MO_near_15 hr hk9 hf
  · have hf := ite_f q1 hf
    refine g_iload_n X d_MO_near_4 2 rfl ?_
    refine g_iconst X d_MO_near_5 (v := (nI 0)) rfl ?_
    refine g_iconst X d_MO_near_6 (v := (nI 2)) rfl ?_
    obtain ⟨r2, σ3, er2, hf⟩ := bd_some hf
    refine ca_MO_in X d_MO_near_7 wl_MO_74 ⟨Nat.le_of_ble_eq_true rfl, Nat.le_of_ble_eq_true rfl⟩ (sum8 rfl) er2 ?_
    refine g_if_ne X d_MO_near_10 16 (by decide) (fun q4 => ?_) (fun q4 => ?_)
    · have hf := ite_f q4 hf
      refine g_aload_n X d_MO_near_16 0 rfl ?_
      obtain ⟨r5, σ6, er5, hf⟩ := bd_some hf
      refine ca_MO_heads X d_MO_near_17 wl_MO_112 ⟨Nat.le_of_ble_eq_true rfl, Nat.le_of_ble_eq_true rfl⟩ (sum8 rfl) er5 ?_
      refine g_iload_n X d_MO_near_20 1 rfl ?_
      refine g_istore_n X d_MO_near_21 rfl (lv' := [(3, .int x1), (0, .ref (Γ.2.2.1 112)), (1, .int x1), (2, .int x2)]) (Nat.le_of_ble_eq_true rfl) rfl ?_
      refine g_iconst X d_MO_near_22 (v := (nI 1)) rfl ?_
      refine g_istore X d_MO_near_23 (lv' := [(4, .int (nI 1)), (3, .int x1), (0, .ref (Γ.2.2.1 112)), (1, .int x1), (2, .int x2)]) (Nat.le_of_ble_eq_true rfl) rfl ?_
      refine g_sub [2, 4, 1, 0] rfl ?_
      exact w_MO_near_25 X hr hk9 _ _ _ _ _ hf
    · have hf := ite_t q4 hf
      refine g_bipush X d_MO_near_13 (v := (-2)) rfl ?_
      exact g_iret X d_MO_near_15 hr hk9 hf
section
variable {R : Room} {kc ks : Nat} {Q : State → Prop} {nL : Nat} {cc : ByteArray} {own : String} {pc : Nat} {lv lv' : List (Nat × Value)} {st : List Value}
theorem ca_MO_near {x1 : Int32} {x2 : Int32} (X : Cx Γ p R s m args c cc nL own kc ks) {idx : Nat} (hd : decode cc pc = .ok (.invokevirtual idx, 3)) (hlk : Cond.methodLink own idx y_MO_near ∈ lw_gt) (hR : 4 + 1 ≤ R.frames ∧ 8 + (8 + 11) + 89 ≤ R.locals) (hw : (st.map fun v => v.category).sum ≤ 8) {σ σ' : Sg} {r : Int32} (hf : f_MO_near x1 x2 σ = some (r, σ')) (k : G Γ p l e R s m args below meth c kc ks Q nL (pc + 3) lv (.int r :: st) σ') : G Γ p l e R s m args below meth c kc ks Q nL pc lv (.int x2 :: .int x1 :: .ref (Γ.2.2.1 112) :: st) σ :=
  g_callV (As := [.int x1, .int x2]) (rest := st) X hd (c_MO_near' hf) co_MO_near hlk wn_MO_near wse_MO_near (by decide) kd_112 rfl hR rfl rfl hw k
end
set_option maxRecDepth 10000 in
theorem w_MO_author_40 {r : Int32} {σ' : Sg} (X : Cx Γ p (z_rm 6 135) s m args c c_MO_author 8 "CaptionTalliesModel" 0 0) (hr : meth.sig.returnType = (some .int)) (hk9 : meth.locks = false) : ∀ (n9 : Nat) (x1 : Int32) (x2 : Int32) (x3 : Int32) (x4 : Int32) (x5 : Int32) (x6 : Int32) (σ : Sg), f_MO_author_40 n9 x1 x2 x3 x4 x5 x6 σ = some (r, σ') → G Γ p l e (z_rm 6 135) s m args below meth c 0 0 (MQ below (Qx Γ (some (.int r)) σ') args s 0 0 (fun q : Nat => Γ.2.2.2 ≤ q)) 8 40 [(0, .ref (Γ.2.2.1 112)), (1, .int x1), (2, .int x2), (3, .int x3), (4, .int x4), (5, .int x5), (6, .int x6)] [] σ := by
  intro n9
  induction n9 with
  | zero => intro x1 x2 x3 x4 x5 x6 σ hf; cases hf
  | succ n9 ih =>
    intro x1 x2 x3 x4 x5 x6 σ hf
    rw [f_MO_author_40] at hf
    refine g_iload X d_MO_author_40 6 rfl ?_
    refine g_aload_n X d_MO_author_42 0 rfl ?_
    refine gf_112_0 X d_MO_author_43 wl_MO_7 ?_
    refine g_iconst X d_MO_author_46 (v := (nI 0)) rfl ?_
    obtain ⟨b1, hf⟩ := gd_some hf
    refine g_iald X d_MO_author_47 kd_113 b1 ?_
    refine g_ic_ge X d_MO_author_48 132 (by decide) (fun q2 => ?_) (fun q2 => ?_)
    · have hf := ite_t q2 hf
      refine g_iload_n X d_MO_author_132 2 rfl ?_
      refine g_if_ne X d_MO_author_133 140 (by decide) (fun q3 => ?_) (fun q3 => ?_)
      · have hf := ite_f q3 hf
        refine g_iload_n X d_MO_author_140 2 rfl ?_
        refine g_iconst X d_MO_author_141 (v := (nI 1)) rfl ?_
        refine g_ic_ne X d_MO_author_142 150 (by decide) (fun q4 => ?_) (fun q4 => ?_)
        · have hf := ite_f q4 hf
          refine g_iload X d_MO_author_150 5 rfl ?_
          exact g_iret X d_MO_author_152 hr hk9 hf
        · have hf := ite_t q4 hf
          refine g_iload X d_MO_author_145 4 rfl ?_
          refine g_goto X d_MO_author_147 152 (by decide) ?_
          exact g_iret X d_MO_author_152 hr hk9 hf
      · have hf := ite_t q3 hf
        refine g_iload_n X d_MO_author_136 3 rfl ?_
        refine g_goto X d_MO_author_137 152 (by decide) ?_
        exact g_iret X d_MO_author_152 hr hk9 hf
    · have hf := ite_f q2 hf
      refine g_aload_n X d_MO_author_51 0 rfl ?_
      refine g_iload X d_MO_author_52 6 rfl ?_
      obtain ⟨r5, σ6, er5, hf⟩ := bd_some hf
      refine ca_MO_is X d_MO_author_54 wl_MO_96 ⟨Nat.le_of_ble_eq_true rfl, Nat.le_of_ble_eq_true rfl⟩ (sum8 rfl) er5 ?_
      refine g_if_eq X d_MO_author_57 126 (by decide) (fun q7 => ?_) (fun q7 => ?_)
      · have hf := ite_t q7 hf
        refine g_iinc X d_MO_author_126 (j := 6) (lv' := [(6, .int (x6 + (nI 1))), (0, .ref (Γ.2.2.1 112)), (1, .int x1), (2, .int x2), (3, .int x3), (4, .int x4), (5, .int x5)]) rfl rfl (Nat.le_of_ble_eq_true rfl) rfl ?_
        refine g_goto X d_MO_author_129 40 (by decide) ?_
        refine g_sub [1, 2, 3, 4, 5, 6, 0] rfl ?_
        exact ih _ _ _ _ _ _ _ hf
      · have hf := ite_f q7 hf
        refine g_aload_n X d_MO_author_60 0 rfl ?_
        refine gf_112_0 X d_MO_author_61 wl_MO_7 ?_
        refine g_bipush X d_MO_author_64 (v := (nI 9)) rfl ?_
        refine g_iload X d_MO_author_66 6 rfl ?_
        refine g_iadd X d_MO_author_68 ?_
        obtain ⟨b8, hf⟩ := gd_some hf
        refine g_iald X d_MO_author_69 kd_113 b8 ?_
        refine g_iload_n X d_MO_author_70 1 rfl ?_
        refine g_ic_ne X d_MO_author_71 126 (by decide) (fun q9 => ?_) (fun q9 => ?_)
        · have hf := ite_f q9 hf
          refine g_iinc X d_MO_author_126 (j := 6) (lv' := [(6, .int (x6 + (nI 1))), (0, .ref (Γ.2.2.1 112)), (1, .int x1), (2, .int x2), (3, .int x3), (4, .int x4), (5, .int x5)]) rfl rfl (Nat.le_of_ble_eq_true rfl) rfl ?_
          refine g_goto X d_MO_author_129 40 (by decide) ?_
          refine g_sub [1, 2, 3, 4, 5, 6, 0] rfl ?_
          exact ih _ _ _ _ _ _ _ hf
        · have hf := ite_t q9 hf
          refine g_aload_n X d_MO_author_74 0 rfl ?_
          refine gf_112_15 X d_MO_author_75 wl_MO_46 ?_
          refine g_aload_n X d_MO_author_78 0 rfl ?_
          refine gf_112_7 X d_MO_author_79 wl_MO_22 ?_
          refine g_iload X d_MO_author_82 6 rfl ?_
          obtain ⟨b10, hf⟩ := gd_some hf
          refine g_iald X d_MO_author_84 kd_117 b10 ?_
          obtain ⟨b11, hf⟩ := gd_some hf
          refine g_iald X d_MO_author_85 kd_125 b11 ?_
          obtain ⟨v12, ev12, hf⟩ := lt_ex hf
          refine g_top ev12 ?_
          refine g_istore X d_MO_author_86 (lv' := [(7, .int v12), (0, .ref (Γ.2.2.1 112)), (1, .int x1), (2, .int x2), (3, .int x3), (4, .int x4), (5, .int x5), (6, .int x6)]) (Nat.le_of_ble_eq_true rfl) rfl ?_
          refine g_iinc X d_MO_author_88 (j := 4) (lv' := [(3, .int (x3 + (nI 1))), (7, .int v12), (0, .ref (Γ.2.2.1 112)), (1, .int x1), (2, .int x2), (4, .int x4), (5, .int x5), (6, .int x6)]) rfl rfl (Nat.le_of_ble_eq_true rfl) rfl ?_
          refine g_iload X d_MO_author_91 5 rfl ?_
          refine g_aload_n X d_MO_author_93 2 rfl ?_
          refine gf_112_17 X d_MO_author_94 wl_MO_52 ?_
          refine g_iload X d_MO_author_97 7 rfl ?_
          obtain ⟨b13, hf⟩ := gd_some hf
          refine g_iald X d_MO_author_99 kd_127 b13 ?_
          refine g_iadd X d_MO_author_100 ?_
          obtain ⟨v14, ev14, hf⟩ := lt_ex hf
          refine g_top ev14 ?_
          refine g_istore X d_MO_author_101 (lv' := [(4, .int v14), (3, .int (x3 + (nI 1))), (7, .int v12), (0, .ref (Γ.2.2.1 112)), (1, .int x1), (2, .int x2), (5, .int x5), (6, .int x6)]) (Nat.le_of_ble_eq_true rfl) rfl ?_
          refine g_iload X d_MO_author_103 6 rfl ?_
          refine g_bipush X d_MO_author_105 (v := (-5)) rfl ?_
          refine g_ic_eq X d_MO_author_107 117 (by decide) (fun q15 => ?_) (fun q15 => ?_)
          · have hf := ite_t q15 hf
            refine g_iload X d_MO_author_117 2 rfl ?_
            refine g_goto X d_MO_author_119 124 (by decide) ?_
            refine g_istore X d_MO_author_124 (lv' := [(5, .int v12), (4, .int v14), (3, .int (x3 + (nI 1))), (7, .int v12), (0, .ref (Γ.2.2.1 112)), (1, .int x1), (2, .int x2), (6, .int x6)]) (Nat.le_of_ble_eq_true rfl) rfl ?_
            refine g_iinc X d_MO_author_126 (j := 7) (lv' := [(6, .int (x6 + (nI 1))), (5, .int v12), (4, .int v14), (3, .int (x3 + (nI 1))), (7, .int v12), (0, .ref (Γ.2.2.1 112)), (1, .int x1), (2, .int x2)]) rfl rfl (Nat.le_of_ble_eq_true rfl) rfl ?_
            refine g_goto X d_MO_author_129 40 (by decide) ?_
            refine g_sub [5, 6, 7, 3, 2, 1, 0] rfl ?_
            exact ih _ _ _ _ _ _ _ hf
          · have hf := ite_f q15 hf
            refine g_iload X d_MO_author_110 2 rfl ?_
            refine g_iload X d_MO_author_112 6 rfl ?_
            refine g_ic_ge X d_MO_author_114 122 (by decide) (fun q16 => ?_) (fun q16 => ?_)
            · have hf := ite_t q16 hf
              refine g_iload X d_MO_author_122 6 rfl ?_
              refine g_istore X d_MO_author_124 (lv' := [(5, .int x5), (4, .int v14), (3, .int (x3 + (nI 1))), (7, .int v12), (0, .ref (Γ.2.2.1 112)), (1, .int x1), (2, .int x2), (6, .int x6)]) (Nat.le_of_ble_eq_true rfl) rfl ?_
              refine g_iinc X d_MO_author_126 (j := 7) (lv' := [(6, .int (x6 + (nI 1))), (5, .int x5), (4, .int v14), (3, .int (x3 + (nI 1))), (7, .int v12), (0, .ref (Γ.2.2.1 112)), (1, .int x1), (2, .int x2)]) rfl rfl (Nat.le_of_ble_eq_true rfl) rfl ?_
              refine g_goto X d_MO_author_129 40 (by decide) ?_
              refine g_sub [5, 6, 7, 3, 2, 1, 0] rfl ?_
              exact ih _ _ _ _ _ _ _ hf
            · have hf := ite_f q16 hf
              refine g_iload X d_MO_author_117 2 rfl ?_
              refine g_goto X d_MO_author_119 124 (by decide) ?_
              refine g_istore X d_MO_author_124 (lv' := [(5, .int v12), (4, .int v14), (3, .int (x3 + (nI 1))), (7, .int v12), (0, .ref (Γ.2.2.1 112)), (1, .int x1), (2, .int x2), (6, .int x6)]) (Nat.le_of_ble_eq_true rfl) rfl ?_
              refine g_iinc X d_MO_author_126 (j := 7) (lv' := [(6, .int (x6 + (nI 1))), (5, .int v12), (4, .int v14), (3, .int (x3 + (nI 1))), (7, .int v12), (0, .ref (Γ.2.2.1 112)), (1, .int x1), (2, .int x2)]) rfl rfl (Nat.le_of_ble_eq_true rfl) rfl ?_
              refine g_goto X d_MO_author_129 40 (by decide) ?_
              refine g_sub [5, 6, 7, 3, 2, 1, 0] rfl ?_
              exact ih _ _ _ _ _ _ _ hf
set_option maxRecDepth 10000 in
theorem c_MO_author' {Γ : Gm} {l : Launch} {x1 : Int32} {x2 : Int32} {σ σ' : Sg} {r : Int32} (hf : f_MO_author x1 x2 σ = some (r, σ')) : Ctr Γ l y_MO_author c_MO_author 8 (some .int) 6 135 [.ref (Γ.2.2.1 112), .int x1, .int x2] σ σ' (some (.int r)) := by
  refine Ctr.of (lv := [(0, .ref (Γ.2.2.1 112)), (1, .int x1), (2, .int x2)]) (by decide +kernel) (Nat.le_of_ble_eq_true rfl) rfl ?_
  intro p e s m args below meth c X hr hk9
  have X : Cx Γ p (z_rm 6 135) s m args c c_MO_author 8 "CaptionTalliesModel" 0 0 := X
  rw [f_MO_author] at hf
  refine g_iload_n X d_MO_author_0 1 rfl ?_
  refine g_iconst X d_MO_author_1 (v := (nI 0)) rfl ?_
  refine g_bipush X d_MO_author_2 (v := (nI 9)) rfl ?_
  obtain ⟨r1, σ2, er1, hf⟩ := bd_some hf
  refine ca_MO_in X d_MO_author_4 wl_MO_74 ⟨Nat.le_of_ble_eq_true rfl, Nat.le_of_ble_eq_true rfl⟩ (sum8 rfl) er1 ?_
  refine g_if_ne X d_MO_author_7 12 (by decide) (fun q3 => ?_) (fun q3 => ?_)
  · have hf := ite_f q3 hf
    refine g_iload_n X d_MO_author_12 2 rfl ?_
    refine g_iconst X d_MO_author_13 (v := (nI 0)) rfl ?_
    refine g_iconst X d_MO_author_14 (v := (nI 2)) rfl ?_
    obtain ⟨r4, σ5, er4, hf⟩ := bd_some hf
    refine ca_MO_in X d_MO_author_15 wl_MO_74 ⟨Nat.le_of_ble_eq_true rfl, Nat.le_of_ble_eq_true rfl⟩ (sum8 rfl) er4 ?_
    refine g_if_ne X d_MO_author_18 24 (by decide) (fun q6 => ?_) (fun q6 => ?_)
    · have hf := ite_f q6 hf
      refine g_aload_n X d_MO_author_24 0 rfl ?_
      obtain ⟨r7, σ8, er7, hf⟩ := bd_some hf
      refine ca_MO_works X d_MO_author_25 wl_MO_169 ⟨Nat.le_of_ble_eq_true rfl, Nat.le_of_ble_eq_true rfl⟩ (sum8 rfl) er7 ?_
      refine g_iconst X d_MO_author_28 (v := (nI 0)) rfl ?_
      refine g_istore_n X d_MO_author_29 rfl (lv' := [(3, .int (nI 0)), (0, .ref (Γ.2.2.1 112)), (1, .int x1), (2, .int x2)]) (Nat.le_of_ble_eq_true rfl) rfl ?_
      refine g_iconst X d_MO_author_30 (v := (nI 0)) rfl ?_
      refine g_istore X d_MO_author_31 (lv' := [(4, .int (nI 0)), (3, .int (nI 0)), (0, .ref (Γ.2.2.1 112)), (1, .int x1), (2, .int x2)]) (Nat.le_of_ble_eq_true rfl) rfl ?_
      refine g_bipush X d_MO_author_33 (v := (-5)) rfl ?_
      refine g_istore X d_MO_author_35 (lv' := [(5, .int (-5)), (4, .int (nI 0)), (3, .int (nI 0)), (0, .ref (Γ.2.2.1 112)), (1, .int x1), (2, .int x2)]) (Nat.le_of_ble_eq_true rfl) rfl ?_
      refine g_iconst X d_MO_author_37 (v := (nI 0)) rfl ?_
      refine g_istore X d_MO_author_38 (lv' := [(6, .int (nI 0)), (5, .int (-5)), (4, .int (nI 0)), (3, .int (nI 0)), (0, .ref (Γ.2.2.1 112)), (1, .int x1), (2, .int x2)]) (Nat.le_of_ble_eq_true rfl) rfl ?_
      refine g_sub [4, 5, 6, 3, 2, 1, 0] rfl ?_
      exact w_MO_author_40 X hr hk9 _ _ _ _ _ _ _ _ hf
    · have hf := ite_t q6 hf
      refine g_bipush X d_MO_author_21 (v := (-2)) rfl ?_
      exact g_iret X d_MO_author_23 hr hk9 hf
  · have hf := ite_t q3 hf
    refine g_iconst X d_MO_author_10 (v := (-1)) rfl ?_
    exact g_iret X d_MO_author_11 hr hk9 hf
section
variable {R : Room} {kc ks : Nat} {Q : State → Prop} {nL : Nat} {cc : ByteArray} {own : String} {pc : Nat} {lv lv' : List (Nat × Value)} {st : List Value}
theorem ca_MO_author {x1 : Int32} {x2 : Int32} (X : Cx Γ p R s m args c cc nL own kc ks) {idx : Nat} (hd : decode cc pc = .ok (.invokevirtual idx, 3)) (hlk : Cond.methodLink own idx y_MO_author ∈ lw_gt) (hR : 6 + 1 ≤ R.frames ∧ 8 + (8 + 11) + 135 ≤ R.locals) (hw : (st.map fun v => v.category).sum ≤ 8) {σ σ' : Sg} {r : Int32} (hf : f_MO_author x1 x2 σ = some (r, σ')) (k : G Γ p l e R s m args below meth c kc ks Q nL (pc + 3) lv (.int r :: st) σ') : G Γ p l e R s m args below meth c kc ks Q nL pc lv (.int x2 :: .int x1 :: .ref (Γ.2.2.1 112) :: st) σ :=
  g_callV (As := [.int x1, .int x2]) (rest := st) X hd (c_MO_author' hf) co_MO_author hlk wn_MO_author wse_MO_author (by decide) kd_112 rfl hR rfl rfl hw k
end
set_option maxRecDepth 10000 in
theorem w_MO_allLinks_12 {K4 : Int32 → Int32 → Sg → Option (Int32 × Sg)} {r : Int32} {σ' : Sg} (X : Cx Γ p (z_rm 1 22) s m args c c_MO_allLinks 4 "CaptionTalliesModel" 0 0) (hr : meth.sig.returnType = (some .int)) (hk9 : meth.locks = false) (hK4 : ∀ (x1 : Int32) (x2 : Int32) (σ : Sg), K4 x1 x2 σ = some (r, σ') → G Γ p l e (z_rm 1 22) s m args below meth c 0 0 (MQ below (Qx Γ (some (.int r)) σ') args s 0 0 (fun q : Nat => Γ.2.2.2 ≤ q)) 4 4 [(0, .ref (Γ.2.2.1 112)), (1, .int x1), (2, .int x2)] [] σ) : ∀ (n9 : Nat) (x1 : Int32) (x2 : Int32) (x3 : Int32) (σ : Sg), f_MO_allLinks_12 K4 n9 x1 x2 x3 σ = some (r, σ') → G Γ p l e (z_rm 1 22) s m args below meth c 0 0 (MQ below (Qx Γ (some (.int r)) σ') args s 0 0 (fun q : Nat => Γ.2.2.2 ≤ q)) 4 12 [(0, .ref (Γ.2.2.1 112)), (1, .int x1), (2, .int x2), (3, .int x3)] [] σ := by
  intro n9
  induction n9 with
  | zero => intro x1 x2 x3 σ hf; cases hf
  | succ n9 ih =>
    intro x1 x2 x3 σ hf
    rw [f_MO_allLinks_12] at hf
    refine g_iload_n X d_MO_allLinks_12 3 rfl ?_
    refine g_iload_n X d_MO_allLinks_13 2 rfl ?_
    refine g_ic_ge X d_MO_allLinks_14 40 (by decide) (fun q1 => ?_) (fun q1 => ?_)
    · have hf := ite_t q1 hf
      refine g_iinc X d_MO_allLinks_40 (j := 2) (lv' := [(2, .int (x2 + (nI 1))), (0, .ref (Γ.2.2.1 112)), (1, .int x1), (3, .int x3)]) rfl rfl (Nat.le_of_ble_eq_true rfl) rfl ?_
      refine g_goto X d_MO_allLinks_43 4 (by decide) ?_
      refine g_sub [1, 2, 0] rfl ?_
      exact hK4 _ _ _ hf
    · have hf := ite_f q1 hf
      refine g_iload_n X d_MO_allLinks_17 1 rfl ?_
      refine g_aload_n X d_MO_allLinks_18 0 rfl ?_
      refine g_iload_n X d_MO_allLinks_19 2 rfl ?_
      refine g_iload_n X d_MO_allLinks_20 3 rfl ?_
      obtain ⟨r2, σ3, er2, hf⟩ := bd_some hf
      refine ca_MO_isLinked X d_MO_allLinks_21 wl_MO_99 ⟨Nat.le_of_ble_eq_true rfl, Nat.le_of_ble_eq_true rfl⟩ (sum8 rfl) er2 ?_
      refine g_if_eq X d_MO_allLinks_24 31 (by decide) (fun q4 => ?_) (fun q4 => ?_)
      · have hf := ite_t q4 hf
        refine g_iconst X d_MO_allLinks_31 (v := (nI 0)) rfl ?_
        refine g_iadd X d_MO_allLinks_32 ?_
        obtain ⟨v5, ev5, hf⟩ := lt_ex hf
        refine g_top ev5 ?_
        refine g_istore_n X d_MO_allLinks_33 rfl (lv' := [(1, .int v5), (0, .ref (Γ.2.2.1 112)), (2, .int x2), (3, .int x3)]) (Nat.le_of_ble_eq_true rfl) rfl ?_
        refine g_iinc X d_MO_allLinks_34 (j := 3) (lv' := [(3, .int (x3 + (nI 1))), (1, .int v5), (0, .ref (Γ.2.2.1 112)), (2, .int x2)]) rfl rfl (Nat.le_of_ble_eq_true rfl) rfl ?_
        refine g_goto X d_MO_allLinks_37 12 (by decide) ?_
        refine g_sub [2, 1, 3, 0] rfl ?_
        exact ih _ _ _ _ hf
      · have hf := ite_f q4 hf
        refine g_iconst X d_MO_allLinks_27 (v := (nI 1)) rfl ?_
        refine g_goto X d_MO_allLinks_28 32 (by decide) ?_
        refine g_iadd X d_MO_allLinks_32 ?_
        obtain ⟨v6, ev6, hf⟩ := lt_ex hf
        refine g_top ev6 ?_
        refine g_istore_n X d_MO_allLinks_33 rfl (lv' := [(1, .int v6), (0, .ref (Γ.2.2.1 112)), (2, .int x2), (3, .int x3)]) (Nat.le_of_ble_eq_true rfl) rfl ?_
        refine g_iinc X d_MO_allLinks_34 (j := 3) (lv' := [(3, .int (x3 + (nI 1))), (1, .int v6), (0, .ref (Γ.2.2.1 112)), (2, .int x2)]) rfl rfl (Nat.le_of_ble_eq_true rfl) rfl ?_
        refine g_goto X d_MO_allLinks_37 12 (by decide) ?_
        refine g_sub [2, 1, 3, 0] rfl ?_
        exact ih _ _ _ _ hf
set_option maxRecDepth 10000 in
theorem w_MO_allLinks_4 {r : Int32} {σ' : Sg} (X : Cx Γ p (z_rm 1 22) s m args c c_MO_allLinks 4 "CaptionTalliesModel" 0 0) (hr : meth.sig.returnType = (some .int)) (hk9 : meth.locks = false) : ∀ (n9 : Nat) (x1 : Int32) (x2 : Int32) (σ : Sg), f_MO_allLinks_4 n9 x1 x2 σ = some (r, σ') → G Γ p l e (z_rm 1 22) s m args below meth c 0 0 (MQ below (Qx Γ (some (.int r)) σ') args s 0 0 (fun q : Nat => Γ.2.2.2 ≤ q)) 4 4 [(0, .ref (Γ.2.2.1 112)), (1, .int x1), (2, .int x2)] [] σ := by
  intro n9
  induction n9 with
  | zero => intro x1 x2 σ hf; cases hf
  | succ n9 ih =>
    intro x1 x2 σ hf
    rw [f_MO_allLinks_4] at hf
    refine g_iload_n X d_MO_allLinks_4 2 rfl ?_
    refine g_bipush X d_MO_allLinks_5 (v := (nI 20)) rfl ?_
    refine g_ic_ge X d_MO_allLinks_7 46 (by decide) (fun q1 => ?_) (fun q1 => ?_)
    · have hf := ite_t q1 hf
      refine g_iload_n X d_MO_allLinks_46 1 rfl ?_
      exact g_iret X d_MO_allLinks_47 hr hk9 hf
    · have hf := ite_f q1 hf
      refine g_iconst X d_MO_allLinks_10 (v := (nI 0)) rfl ?_
      refine g_istore_n X d_MO_allLinks_11 rfl (lv' := [(3, .int (nI 0)), (0, .ref (Γ.2.2.1 112)), (1, .int x1), (2, .int x2)]) (Nat.le_of_ble_eq_true rfl) rfl ?_
      refine g_sub [1, 2, 3, 0] rfl ?_
      exact w_MO_allLinks_12 X hr hk9 ih _ _ _ _ _ hf
set_option maxRecDepth 10000 in
theorem c_MO_allLinks' {Γ : Gm} {l : Launch} {σ σ' : Sg} {r : Int32} (hf : f_MO_allLinks σ = some (r, σ')) : Ctr Γ l y_MO_allLinks c_MO_allLinks 4 (some .int) 1 22 [.ref (Γ.2.2.1 112)] σ σ' (some (.int r)) := by
  refine Ctr.of (lv := [(0, .ref (Γ.2.2.1 112))]) (by decide +kernel) (Nat.le_of_ble_eq_true rfl) rfl ?_
  intro p e s m args below meth c X hr hk9
  have X : Cx Γ p (z_rm 1 22) s m args c c_MO_allLinks 4 "CaptionTalliesModel" 0 0 := X
  rw [f_MO_allLinks] at hf
  refine g_iconst X d_MO_allLinks_0 (v := (nI 0)) rfl ?_
  refine g_istore_n X d_MO_allLinks_1 rfl (lv' := [(1, .int (nI 0)), (0, .ref (Γ.2.2.1 112))]) (Nat.le_of_ble_eq_true rfl) rfl ?_
  refine g_iconst X d_MO_allLinks_2 (v := (nI 0)) rfl ?_
  refine g_istore_n X d_MO_allLinks_3 rfl (lv' := [(2, .int (nI 0)), (1, .int (nI 0)), (0, .ref (Γ.2.2.1 112))]) (Nat.le_of_ble_eq_true rfl) rfl ?_
  refine g_sub [2, 1, 0] rfl ?_
  exact w_MO_allLinks_4 X hr hk9 _ _ _ _ hf
section
variable {R : Room} {kc ks : Nat} {Q : State → Prop} {nL : Nat} {cc : ByteArray} {own : String} {pc : Nat} {lv lv' : List (Nat × Value)} {st : List Value}
theorem ca_MO_allLinks (X : Cx Γ p R s m args c cc nL own kc ks) {idx : Nat} (hd : decode cc pc = .ok (.invokevirtual idx, 3)) (hlk : Cond.methodLink own idx y_MO_allLinks ∈ lw_gt) (hR : 1 + 1 ≤ R.frames ∧ 8 + (4 + 11) + 22 ≤ R.locals) (hw : (st.map fun v => v.category).sum ≤ 8) {σ σ' : Sg} {r : Int32} (hf : f_MO_allLinks σ = some (r, σ')) (k : G Γ p l e R s m args below meth c kc ks Q nL (pc + 3) lv (.int r :: st) σ') : G Γ p l e R s m args below meth c kc ks Q nL pc lv (.ref (Γ.2.2.1 112) :: st) σ :=
  g_callV (As := []) (rest := st) X hd (c_MO_allLinks' hf) co_MO_allLinks hlk wn_MO_allLinks wse_MO_allLinks (by decide) kd_112 rfl hR rfl rfl hw k
end
set_option maxRecDepth 10000 in
theorem w_MO_over_123 {K42 : Int32 → Int32 → Int32 → Sg → Option (Int32 × Sg)} {r : Int32} {σ' : Sg} (X : Cx Γ p (z_rm 1 23) s m args c c_MO_over 5 "CaptionTalliesModel" 0 0) (hr : meth.sig.returnType = (some .int)) (hk9 : meth.locks = false) (hK42 : ∀ (x1 : Int32) (x2 : Int32) (x3 : Int32) (σ : Sg), K42 x1 x2 x3 σ = some (r, σ') → G Γ p l e (z_rm 1 23) s m args below meth c 0 0 (MQ below (Qx Γ (some (.int r)) σ') args s 0 0 (fun q : Nat => Γ.2.2.2 ≤ q)) 5 42 [(0, .ref (Γ.2.2.1 112)), (1, .int x1), (2, .int x2), (3, .int x3)] [] σ)  (x1 : Int32) (x2 : Int32) (x3 : Int32) (t0 : Int32) (σ : Sg) (hf : f_MO_over_123 K42 x1 x2 x3 t0 σ = some (r, σ')) : G Γ p l e (z_rm 1 23) s m args below meth c 0 0 (MQ below (Qx Γ (some (.int r)) σ') args s 0 0 (fun q : Nat => Γ.2.2.2 ≤ q)) 5 123 [(0, .ref (Γ.2.2.1 112)), (1, .int x1), (2, .int x2), (3, .int x3)] [.int t0] σ := by
  rw [f_MO_over_123] at hf
  refine g_istore X d_MO_over_123 (lv' := [(4, .int t0), (0, .ref (Γ.2.2.1 112)), (1, .int x1), (2, .int x2), (3, .int x3)]) (Nat.le_of_ble_eq_true rfl) rfl ?_
  refine g_iload_n X d_MO_over_125 3 rfl ?_
  refine g_iload_n X d_MO_over_126 2 rfl ?_
  refine g_iconst X d_MO_over_127 (v := (nI 5)) rfl ?_
  refine g_ic_ne X d_MO_over_128 145 (by decide) (fun q1 => ?_) (fun q1 => ?_)
  · have hf := ite_f q1 hf
    refine g_iload_n X d_MO_over_145 2 rfl ?_
    refine g_bipush X d_MO_over_146 (v := (nI 6)) rfl ?_
    refine g_ic_ne X d_MO_over_148 164 (by decide) (fun q2 => ?_) (fun q2 => ?_)
    · have hf := ite_f q2 hf
      refine g_iload_n X d_MO_over_164 2 rfl ?_
      refine g_bipush X d_MO_over_165 (v := (nI 10)) rfl ?_
      refine g_ic_ne X d_MO_over_167 179 (by decide) (fun q3 => ?_) (fun q3 => ?_)
      · have hf := ite_f q3 hf
        refine g_iconst X d_MO_over_179 (v := (nI 0)) rfl ?_
        refine g_iadd X d_MO_over_180 ?_
        obtain ⟨v4, ev4, hf⟩ := lt_ex hf
        refine g_top ev4 ?_
        refine g_istore_n X d_MO_over_181 rfl (lv' := [(2, .int v4), (4, .int t0), (0, .ref (Γ.2.2.1 112)), (1, .int x1), (3, .int x3)]) (Nat.le_of_ble_eq_true rfl) rfl ?_
        refine g_iinc X d_MO_over_182 (j := 4) (lv' := [(3, .int (x3 + (nI 1))), (2, .int v4), (4, .int t0), (0, .ref (Γ.2.2.1 112)), (1, .int x1)]) rfl rfl (Nat.le_of_ble_eq_true rfl) rfl ?_
        refine g_goto X d_MO_over_185 42 (by decide) ?_
        refine g_sub [3, 4, 1, 0] rfl ?_
        exact hK42 _ _ _ _ hf
      · have hf := ite_t q3 hf
        refine g_iload X d_MO_over_170 0 rfl ?_
        refine g_if_eq X d_MO_over_172 179 (by decide) (fun q5 => ?_) (fun q5 => ?_)
        · have hf := ite_t q5 hf
          refine g_iconst X d_MO_over_179 (v := (nI 0)) rfl ?_
          refine g_iadd X d_MO_over_180 ?_
          obtain ⟨v6, ev6, hf⟩ := lt_ex hf
          refine g_top ev6 ?_
          refine g_istore_n X d_MO_over_181 rfl (lv' := [(2, .int v6), (4, .int t0), (0, .ref (Γ.2.2.1 112)), (1, .int x1), (3, .int x3)]) (Nat.le_of_ble_eq_true rfl) rfl ?_
          refine g_iinc X d_MO_over_182 (j := 4) (lv' := [(3, .int (x3 + (nI 1))), (2, .int v6), (4, .int t0), (0, .ref (Γ.2.2.1 112)), (1, .int x1)]) rfl rfl (Nat.le_of_ble_eq_true rfl) rfl ?_
          refine g_goto X d_MO_over_185 42 (by decide) ?_
          refine g_sub [3, 4, 1, 0] rfl ?_
          exact hK42 _ _ _ _ hf
        · have hf := ite_f q5 hf
          refine g_iconst X d_MO_over_175 (v := (nI 1)) rfl ?_
          refine g_goto X d_MO_over_176 180 (by decide) ?_
          refine g_iadd X d_MO_over_180 ?_
          obtain ⟨v7, ev7, hf⟩ := lt_ex hf
          refine g_top ev7 ?_
          refine g_istore_n X d_MO_over_181 rfl (lv' := [(2, .int v7), (4, .int t0), (0, .ref (Γ.2.2.1 112)), (1, .int x1), (3, .int x3)]) (Nat.le_of_ble_eq_true rfl) rfl ?_
          refine g_iinc X d_MO_over_182 (j := 4) (lv' := [(3, .int (x3 + (nI 1))), (2, .int v7), (4, .int t0), (0, .ref (Γ.2.2.1 112)), (1, .int x1)]) rfl rfl (Nat.le_of_ble_eq_true rfl) rfl ?_
          refine g_goto X d_MO_over_185 42 (by decide) ?_
          refine g_sub [3, 4, 1, 0] rfl ?_
          exact hK42 _ _ _ _ hf
    · have hf := ite_t q2 hf
      refine g_aload_n X d_MO_over_151 1 rfl ?_
      refine g_aload_n X d_MO_over_152 1 rfl ?_
      refine gf_112_16 X d_MO_over_153 wl_MO_49 ?_
      refine g_iload_n X d_MO_over_156 4 rfl ?_
      obtain ⟨b8, hf⟩ := gd_some hf
      refine g_iald X d_MO_over_157 kd_126 b8 ?_
      obtain ⟨r9, σ10, er9, hf⟩ := bd_some hf
      refine ca_MO_getsGroup X d_MO_over_158 wl_MO_178 ⟨Nat.le_of_ble_eq_true rfl, Nat.le_of_ble_eq_true rfl⟩ (sum8 rfl) er9 ?_
      refine g_goto X d_MO_over_161 180 (by decide) ?_
      refine g_iadd X d_MO_over_180 ?_
      obtain ⟨v11, ev11, hf⟩ := lt_ex hf
      refine g_top ev11 ?_
      refine g_istore_n X d_MO_over_181 rfl (lv' := [(2, .int v11), (4, .int t0), (0, .ref (Γ.2.2.1 112)), (1, .int x1), (3, .int x3)]) (Nat.le_of_ble_eq_true rfl) rfl ?_
      refine g_iinc X d_MO_over_182 (j := 4) (lv' := [(3, .int (x3 + (nI 1))), (2, .int v11), (4, .int t0), (0, .ref (Γ.2.2.1 112)), (1, .int x1)]) rfl rfl (Nat.le_of_ble_eq_true rfl) rfl ?_
      refine g_goto X d_MO_over_185 42 (by decide) ?_
      refine g_sub [3, 4, 1, 0] rfl ?_
      exact hK42 _ _ _ _ hf
  · have hf := ite_t q1 hf
    refine g_aload_n X d_MO_over_131 1 rfl ?_
    refine gf_112_8 X d_MO_over_132 wl_MO_25 ?_
    refine g_aload_n X d_MO_over_135 1 rfl ?_
    refine gf_112_16 X d_MO_over_136 wl_MO_49 ?_
    refine g_iload_n X d_MO_over_139 4 rfl ?_
    obtain ⟨b12, hf⟩ := gd_some hf
    refine g_iald X d_MO_over_140 kd_126 b12 ?_
    obtain ⟨b13, hf⟩ := gd_some hf
    refine g_iald X d_MO_over_141 kd_118 b13 ?_
    refine g_goto X d_MO_over_142 180 (by decide) ?_
    refine g_iadd X d_MO_over_180 ?_
    obtain ⟨v14, ev14, hf⟩ := lt_ex hf
    refine g_top ev14 ?_
    refine g_istore_n X d_MO_over_181 rfl (lv' := [(2, .int v14), (4, .int t0), (0, .ref (Γ.2.2.1 112)), (1, .int x1), (3, .int x3)]) (Nat.le_of_ble_eq_true rfl) rfl ?_
    refine g_iinc X d_MO_over_182 (j := 4) (lv' := [(3, .int (x3 + (nI 1))), (2, .int v14), (4, .int t0), (0, .ref (Γ.2.2.1 112)), (1, .int x1)]) rfl rfl (Nat.le_of_ble_eq_true rfl) rfl ?_
    refine g_goto X d_MO_over_185 42 (by decide) ?_
    refine g_sub [3, 4, 1, 0] rfl ?_
    exact hK42 _ _ _ _ hf
set_option maxRecDepth 10000 in
theorem w_MO_over_81 {K42 : Int32 → Int32 → Int32 → Sg → Option (Int32 × Sg)} {r : Int32} {σ' : Sg} (X : Cx Γ p (z_rm 1 23) s m args c c_MO_over 5 "CaptionTalliesModel" 0 0) (hr : meth.sig.returnType = (some .int)) (hk9 : meth.locks = false) (hK42 : ∀ (x1 : Int32) (x2 : Int32) (x3 : Int32) (σ : Sg), K42 x1 x2 x3 σ = some (r, σ') → G Γ p l e (z_rm 1 23) s m args below meth c 0 0 (MQ below (Qx Γ (some (.int r)) σ') args s 0 0 (fun q : Nat => Γ.2.2.2 ≤ q)) 5 42 [(0, .ref (Γ.2.2.1 112)), (1, .int x1), (2, .int x2), (3, .int x3)] [] σ)  (x1 : Int32) (x2 : Int32) (x3 : Int32) (σ : Sg) (hf : f_MO_over_81 K42 x1 x2 x3 σ = some (r, σ')) : G Γ p l e (z_rm 1 23) s m args below meth c 0 0 (MQ below (Qx Γ (some (.int r)) σ') args s 0 0 (fun q : Nat => Γ.2.2.2 ≤ q)) 5 81 [(0, .ref (Γ.2.2.1 112)), (1, .int x1), (2, .int x2), (3, .int x3)] [] σ := by
  rw [f_MO_over_81] at hf
  refine g_iload_n X d_MO_over_81 3 rfl ?_
  refine g_iconst X d_MO_over_82 (v := (nI 1)) rfl ?_
  refine g_iadd X d_MO_over_83 ?_
  refine g_aload_n X d_MO_over_84 0 rfl ?_
  refine gf_112_23 X d_MO_over_85 wl_MO_93 ?_
  refine g_ic_ge X d_MO_over_88 122 (by decide) (fun q1 => ?_) (fun q1 => ?_)
  · have hf := ite_t q1 hf
    refine g_iconst X d_MO_over_122 (v := (nI 0)) rfl ?_
    exact w_MO_over_123 X hr hk9 hK42 _ _ _ _ _ hf
  · have hf := ite_f q1 hf
    refine g_aload_n X d_MO_over_91 0 rfl ?_
    refine gf_112_15 X d_MO_over_92 wl_MO_46 ?_
    refine g_aload_n X d_MO_over_95 0 rfl ?_
    refine gf_112_16 X d_MO_over_96 wl_MO_49 ?_
    refine g_iload_n X d_MO_over_99 3 rfl ?_
    obtain ⟨b2, hf⟩ := gd_some hf
    refine g_iald X d_MO_over_100 kd_126 b2 ?_
    obtain ⟨b3, hf⟩ := gd_some hf
    refine g_iald X d_MO_over_101 kd_125 b3 ?_
    refine g_aload_n X d_MO_over_102 0 rfl ?_
    refine gf_112_15 X d_MO_over_103 wl_MO_46 ?_
    refine g_aload_n X d_MO_over_106 0 rfl ?_
    refine gf_112_16 X d_MO_over_107 wl_MO_49 ?_
    refine g_iload_n X d_MO_over_110 3 rfl ?_
    refine g_iconst X d_MO_over_111 (v := (nI 1)) rfl ?_
    refine g_iadd X d_MO_over_112 ?_
    obtain ⟨b4, hf⟩ := gd_some hf
    refine g_iald X d_MO_over_113 kd_126 b4 ?_
    obtain ⟨b5, hf⟩ := gd_some hf
    refine g_iald X d_MO_over_114 kd_125 b5 ?_
    refine g_ic_ne X d_MO_over_115 122 (by decide) (fun q6 => ?_) (fun q6 => ?_)
    · have hf := ite_f q6 hf
      refine g_iconst X d_MO_over_122 (v := (nI 0)) rfl ?_
      exact w_MO_over_123 X hr hk9 hK42 _ _ _ _ _ hf
    · have hf := ite_t q6 hf
      refine g_iconst X d_MO_over_118 (v := (nI 1)) rfl ?_
      refine g_goto X d_MO_over_119 123 (by decide) ?_
      exact w_MO_over_123 X hr hk9 hK42 _ _ _ _ _ hf
set_option maxRecDepth 10000 in
theorem w_MO_over_42 {r : Int32} {σ' : Sg} (X : Cx Γ p (z_rm 1 23) s m args c c_MO_over 5 "CaptionTalliesModel" 0 0) (hr : meth.sig.returnType = (some .int)) (hk9 : meth.locks = false) : ∀ (n9 : Nat) (x1 : Int32) (x2 : Int32) (x3 : Int32) (σ : Sg), f_MO_over_42 n9 x1 x2 x3 σ = some (r, σ') → G Γ p l e (z_rm 1 23) s m args below meth c 0 0 (MQ below (Qx Γ (some (.int r)) σ') args s 0 0 (fun q : Nat => Γ.2.2.2 ≤ q)) 5 42 [(0, .ref (Γ.2.2.1 112)), (1, .int x1), (2, .int x2), (3, .int x3)] [] σ := by
  intro n9
  induction n9 with
  | zero => intro x1 x2 x3 σ hf; cases hf
  | succ n9 ih =>
    intro x1 x2 x3 σ hf
    rw [f_MO_over_42] at hf
    refine g_iload_n X d_MO_over_42 3 rfl ?_
    refine g_aload_n X d_MO_over_43 0 rfl ?_
    refine gf_112_23 X d_MO_over_44 wl_MO_93 ?_
    refine g_ic_ge X d_MO_over_47 188 (by decide) (fun q1 => ?_) (fun q1 => ?_)
    · have hf := ite_t q1 hf
      refine g_iload_n X d_MO_over_188 2 rfl ?_
      exact g_iret X d_MO_over_189 hr hk9 hf
    · have hf := ite_f q1 hf
      refine g_iload_n X d_MO_over_50 3 rfl ?_
      refine g_if_le X d_MO_over_51 81 (by decide) (fun q2 => ?_) (fun q2 => ?_)
      · have hf := ite_t q2 hf
        exact w_MO_over_81 X hr hk9 ih _ _ _ _ hf
      · have hf := ite_f q2 hf
        refine g_aload_n X d_MO_over_54 0 rfl ?_
        refine gf_112_15 X d_MO_over_55 wl_MO_46 ?_
        refine g_aload_n X d_MO_over_58 0 rfl ?_
        refine gf_112_16 X d_MO_over_59 wl_MO_49 ?_
        refine g_iload_n X d_MO_over_62 3 rfl ?_
        obtain ⟨b3, hf⟩ := gd_some hf
        refine g_iald X d_MO_over_63 kd_126 b3 ?_
        obtain ⟨b4, hf⟩ := gd_some hf
        refine g_iald X d_MO_over_64 kd_125 b4 ?_
        refine g_aload_n X d_MO_over_65 0 rfl ?_
        refine gf_112_15 X d_MO_over_66 wl_MO_46 ?_
        refine g_aload_n X d_MO_over_69 0 rfl ?_
        refine gf_112_16 X d_MO_over_70 wl_MO_49 ?_
        refine g_iload_n X d_MO_over_73 3 rfl ?_
        refine g_iconst X d_MO_over_74 (v := (nI 1)) rfl ?_
        refine g_isub X d_MO_over_75 ?_
        obtain ⟨b5, hf⟩ := gd_some hf
        refine g_iald X d_MO_over_76 kd_126 b5 ?_
        obtain ⟨b6, hf⟩ := gd_some hf
        refine g_iald X d_MO_over_77 kd_125 b6 ?_
        refine g_ic_eq X d_MO_over_78 118 (by decide) (fun q7 => ?_) (fun q7 => ?_)
        · have hf := ite_t q7 hf
          refine g_iconst X d_MO_over_118 (v := (nI 1)) rfl ?_
          refine g_goto X d_MO_over_119 123 (by decide) ?_
          exact w_MO_over_123 X hr hk9 ih _ _ _ _ _ hf
        · have hf := ite_f q7 hf
          exact w_MO_over_81 X hr hk9 ih _ _ _ _ hf
set_option maxRecDepth 10000 in
theorem w_MO_over_4 {r : Int32} {σ' : Sg} (X : Cx Γ p (z_rm 1 23) s m args c c_MO_over 5 "CaptionTalliesModel" 0 0) (hr : meth.sig.returnType = (some .int)) (hk9 : meth.locks = false) : ∀ (n9 : Nat) (x1 : Int32) (x2 : Int32) (x3 : Int32) (σ : Sg), f_MO_over_4 n9 x1 x2 x3 σ = some (r, σ') → G Γ p l e (z_rm 1 23) s m args below meth c 0 0 (MQ below (Qx Γ (some (.int r)) σ') args s 0 0 (fun q : Nat => Γ.2.2.2 ≤ q)) 5 4 [(0, .ref (Γ.2.2.1 112)), (1, .int x1), (2, .int x2), (3, .int x3)] [] σ := by
  intro n9
  induction n9 with
  | zero => intro x1 x2 x3 σ hf; cases hf
  | succ n9 ih =>
    intro x1 x2 x3 σ hf
    rw [f_MO_over_4] at hf
    refine g_iload_n X d_MO_over_4 3 rfl ?_
    refine g_bipush X d_MO_over_5 (v := (nI 12)) rfl ?_
    refine g_ic_ge X d_MO_over_7 40 (by decide) (fun q1 => ?_) (fun q1 => ?_)
    · have hf := ite_t q1 hf
      refine g_iconst X d_MO_over_40 (v := (nI 0)) rfl ?_
      refine g_istore_n X d_MO_over_41 rfl (lv' := [(3, .int (nI 0)), (0, .ref (Γ.2.2.1 112)), (1, .int x1), (2, .int x2)]) (Nat.le_of_ble_eq_true rfl) rfl ?_
      refine g_sub [1, 2, 3, 0] rfl ?_
      exact w_MO_over_42 X hr hk9 _ _ _ _ _ hf
    · have hf := ite_f q1 hf
      refine g_iload_n X d_MO_over_10 1 rfl ?_
      refine g_iconst X d_MO_over_11 (v := (nI 4)) rfl ?_
      refine g_ic_ne X d_MO_over_12 40 (by decide) (fun q2 => ?_) (fun q2 => ?_)
      · have hf := ite_f q2 hf
        refine g_iconst X d_MO_over_40 (v := (nI 0)) rfl ?_
        refine g_istore_n X d_MO_over_41 rfl (lv' := [(3, .int (nI 0)), (0, .ref (Γ.2.2.1 112)), (1, .int x1), (2, .int x2)]) (Nat.le_of_ble_eq_true rfl) rfl ?_
        refine g_sub [1, 2, 3, 0] rfl ?_
        exact w_MO_over_42 X hr hk9 _ _ _ _ _ hf
      · have hf := ite_t q2 hf
        refine g_iload_n X d_MO_over_15 2 rfl ?_
        refine g_aload_n X d_MO_over_16 0 rfl ?_
        refine gf_112_18 X d_MO_over_17 wl_MO_55 ?_
        refine g_iconst X d_MO_over_20 (v := (nI 3)) rfl ?_
        refine g_iload_n X d_MO_over_21 3 rfl ?_
        refine g_imul X d_MO_over_22 ?_
        obtain ⟨b3, hf⟩ := gd_some hf
        refine g_iald X d_MO_over_23 kd_128 b3 ?_
        refine g_if_lt X d_MO_over_24 31 (by decide) (fun q4 => ?_) (fun q4 => ?_)
        · have hf := ite_t q4 hf
          refine g_iconst X d_MO_over_31 (v := (nI 0)) rfl ?_
          refine g_iadd X d_MO_over_32 ?_
          obtain ⟨v5, ev5, hf⟩ := lt_ex hf
          refine g_top ev5 ?_
          refine g_istore_n X d_MO_over_33 rfl (lv' := [(2, .int v5), (0, .ref (Γ.2.2.1 112)), (1, .int x1), (3, .int x3)]) (Nat.le_of_ble_eq_true rfl) rfl ?_
          refine g_iinc X d_MO_over_34 (j := 3) (lv' := [(3, .int (x3 + (nI 1))), (2, .int v5), (0, .ref (Γ.2.2.1 112)), (1, .int x1)]) rfl rfl (Nat.le_of_ble_eq_true rfl) rfl ?_
          refine g_goto X d_MO_over_37 4 (by decide) ?_
          refine g_sub [2, 3, 1, 0] rfl ?_
          exact ih _ _ _ _ hf
        · have hf := ite_f q4 hf
          refine g_iconst X d_MO_over_27 (v := (nI 1)) rfl ?_
          refine g_goto X d_MO_over_28 32 (by decide) ?_
          refine g_iadd X d_MO_over_32 ?_
          obtain ⟨v6, ev6, hf⟩ := lt_ex hf
          refine g_top ev6 ?_
          refine g_istore_n X d_MO_over_33 rfl (lv' := [(2, .int v6), (0, .ref (Γ.2.2.1 112)), (1, .int x1), (3, .int x3)]) (Nat.le_of_ble_eq_true rfl) rfl ?_
          refine g_iinc X d_MO_over_34 (j := 3) (lv' := [(3, .int (x3 + (nI 1))), (2, .int v6), (0, .ref (Γ.2.2.1 112)), (1, .int x1)]) rfl rfl (Nat.le_of_ble_eq_true rfl) rfl ?_
          refine g_goto X d_MO_over_37 4 (by decide) ?_
          refine g_sub [2, 3, 1, 0] rfl ?_
          exact ih _ _ _ _ hf
set_option maxRecDepth 10000 in
theorem c_MO_over' {Γ : Gm} {l : Launch} {x1 : Int32} {σ σ' : Sg} {r : Int32} (hf : f_MO_over x1 σ = some (r, σ')) : Ctr Γ l y_MO_over c_MO_over 5 (some .int) 1 23 [.ref (Γ.2.2.1 112), .int x1] σ σ' (some (.int r)) := by
  refine Ctr.of (lv := [(0, .ref (Γ.2.2.1 112)), (1, .int x1)]) (by decide +kernel) (Nat.le_of_ble_eq_true rfl) rfl ?_
  intro p e s m args below meth c X hr hk9
  have X : Cx Γ p (z_rm 1 23) s m args c c_MO_over 5 "CaptionTalliesModel" 0 0 := X
  rw [f_MO_over] at hf
  refine g_iconst X d_MO_over_0 (v := (nI 0)) rfl ?_
  refine g_istore_n X d_MO_over_1 rfl (lv' := [(2, .int (nI 0)), (0, .ref (Γ.2.2.1 112)), (1, .int x1)]) (Nat.le_of_ble_eq_true rfl) rfl ?_
  refine g_iconst X d_MO_over_2 (v := (nI 0)) rfl ?_
  refine g_istore_n X d_MO_over_3 rfl (lv' := [(3, .int (nI 0)), (2, .int (nI 0)), (0, .ref (Γ.2.2.1 112)), (1, .int x1)]) (Nat.le_of_ble_eq_true rfl) rfl ?_
  refine g_sub [2, 3, 1, 0] rfl ?_
  exact w_MO_over_4 X hr hk9 _ _ _ _ _ hf
section
variable {R : Room} {kc ks : Nat} {Q : State → Prop} {nL : Nat} {cc : ByteArray} {own : String} {pc : Nat} {lv lv' : List (Nat × Value)} {st : List Value}
theorem ca_MO_over {x1 : Int32} (X : Cx Γ p R s m args c cc nL own kc ks) {idx : Nat} (hd : decode cc pc = .ok (.invokevirtual idx, 3)) (hlk : Cond.methodLink own idx y_MO_over ∈ lw_gt) (hR : 1 + 1 ≤ R.frames ∧ 8 + (5 + 11) + 23 ≤ R.locals) (hw : (st.map fun v => v.category).sum ≤ 8) {σ σ' : Sg} {r : Int32} (hf : f_MO_over x1 σ = some (r, σ')) (k : G Γ p l e R s m args below meth c kc ks Q nL (pc + 3) lv (.int r :: st) σ') : G Γ p l e R s m args below meth c kc ks Q nL pc lv (.int x1 :: .ref (Γ.2.2.1 112) :: st) σ :=
  g_callV (As := [.int x1]) (rest := st) X hd (c_MO_over' hf) co_MO_over hlk wn_MO_over wse_MO_over (by decide) kd_112 rfl hR rfl rfl hw k
end
set_option maxRecDepth 10000 in
theorem w_MO_count_46 {r : Int32} {σ' : Sg} (X : Cx Γ p (z_rm 6 135) s m args c c_MO_count 2 "CaptionTalliesModel" 0 0) (hr : meth.sig.returnType = (some .int)) (hk9 : meth.locks = false)  (x1 : Int32) (σ : Sg) (hf : f_MO_count_46 x1 σ = some (r, σ')) : G Γ p l e (z_rm 6 135) s m args below meth c 0 0 (MQ below (Qx Γ (some (.int r)) σ') args s 0 0 (fun q : Nat => Γ.2.2.2 ≤ q)) 2 46 [(0, .ref (Γ.2.2.1 112)), (1, .int x1)] [] σ := by
  rw [f_MO_count_46] at hf
  refine g_iload_n X d_MO_count_46 1 rfl ?_
  refine g_if_ne X d_MO_count_47 57 (by decide) (fun q1 => ?_) (fun q1 => ?_)
  · have hf := ite_f q1 hf
    refine g_iload_n X d_MO_count_57 1 rfl ?_
    refine g_iconst X d_MO_count_58 (v := (nI 1)) rfl ?_
    refine g_ic_ne X d_MO_count_59 71 (by decide) (fun q2 => ?_) (fun q2 => ?_)
    · have hf := ite_f q2 hf
      refine g_aload_n X d_MO_count_71 0 rfl ?_
      obtain ⟨r3, σ4, er3, hf⟩ := bd_some hf
      refine ca_MO_allLinks X d_MO_count_72 wl_MO_184 ⟨Nat.le_of_ble_eq_true rfl, Nat.le_of_ble_eq_true rfl⟩ (sum8 rfl) er3 ?_
      exact g_iret X d_MO_count_75 hr hk9 hf
    · have hf := ite_t q2 hf
      refine g_aload_n X d_MO_count_62 0 rfl ?_
      refine gf_112_0 X d_MO_count_63 wl_MO_7 ?_
      refine g_iconst X d_MO_count_66 (v := (nI 0)) rfl ?_
      obtain ⟨b5, hf⟩ := gd_some hf
      refine g_iald X d_MO_count_67 kd_113 b5 ?_
      refine g_goto X d_MO_count_68 75 (by decide) ?_
      exact g_iret X d_MO_count_75 hr hk9 hf
  · have hf := ite_t q1 hf
    refine g_aload_n X d_MO_count_50 0 rfl ?_
    obtain ⟨r6, σ7, er6, hf⟩ := bd_some hf
    refine ca_MO_there X d_MO_count_51 wl_MO_159 ⟨Nat.le_of_ble_eq_true rfl, Nat.le_of_ble_eq_true rfl⟩ (sum8 rfl) er6 ?_
    refine g_goto X d_MO_count_54 75 (by decide) ?_
    exact g_iret X d_MO_count_75 hr hk9 hf
set_option maxRecDepth 10000 in
theorem c_MO_count' {Γ : Gm} {l : Launch} {x1 : Int32} {σ σ' : Sg} {r : Int32} (hf : f_MO_count x1 σ = some (r, σ')) : Ctr Γ l y_MO_count c_MO_count 2 (some .int) 6 135 [.ref (Γ.2.2.1 112), .int x1] σ σ' (some (.int r)) := by
  refine Ctr.of (lv := [(0, .ref (Γ.2.2.1 112)), (1, .int x1)]) (by decide +kernel) (Nat.le_of_ble_eq_true rfl) rfl ?_
  intro p e s m args below meth c X hr hk9
  have X : Cx Γ p (z_rm 6 135) s m args c c_MO_count 2 "CaptionTalliesModel" 0 0 := X
  rw [f_MO_count] at hf
  refine g_iload_n X d_MO_count_0 1 rfl ?_
  refine g_bipush X d_MO_count_1 (v := (nI 21)) rfl ?_
  refine g_bipush X d_MO_count_3 (v := (nI 25)) rfl ?_
  obtain ⟨r1, σ2, er1, hf⟩ := bd_some hf
  refine ca_MO_in X d_MO_count_5 wl_MO_74 ⟨Nat.le_of_ble_eq_true rfl, Nat.le_of_ble_eq_true rfl⟩ (sum8 rfl) er1 ?_
  refine g_if_eq X d_MO_count_8 23 (by decide) (fun q3 => ?_) (fun q3 => ?_)
  · have hf := ite_t q3 hf
    refine g_iload_n X d_MO_count_23 1 rfl ?_
    refine g_iconst X d_MO_count_24 (v := (nI 0)) rfl ?_
    refine g_bipush X d_MO_count_25 (v := (nI 12)) rfl ?_
    obtain ⟨r4, σ5, er4, hf⟩ := bd_some hf
    refine ca_MO_in X d_MO_count_27 wl_MO_74 ⟨Nat.le_of_ble_eq_true rfl, Nat.le_of_ble_eq_true rfl⟩ (sum8 rfl) er4 ?_
    refine g_if_ne X d_MO_count_30 36 (by decide) (fun q6 => ?_) (fun q6 => ?_)
    · have hf := ite_f q6 hf
      refine g_iload_n X d_MO_count_36 1 rfl ?_
      refine g_iconst X d_MO_count_37 (v := (nI 2)) rfl ?_
      refine g_ic_lt X d_MO_count_38 46 (by decide) (fun q7 => ?_) (fun q7 => ?_)
      · have hf := ite_t q7 hf
        exact w_MO_count_46 X hr hk9 _ _ hf
      · have hf := ite_f q7 hf
        refine g_iload_n X d_MO_count_41 1 rfl ?_
        refine g_iconst X d_MO_count_42 (v := (nI 3)) rfl ?_
        refine g_ic_ne X d_MO_count_43 76 (by decide) (fun q8 => ?_) (fun q8 => ?_)
        · have hf := ite_f q8 hf
          refine g_iload_n X d_MO_count_76 1 rfl ?_
          refine g_bipush X d_MO_count_77 (v := (nI 7)) rfl ?_
          refine g_bipush X d_MO_count_79 (v := (nI 9)) rfl ?_
          obtain ⟨r9, σ10, er9, hf⟩ := bd_some hf
          refine ca_MO_in X d_MO_count_81 wl_MO_74 ⟨Nat.le_of_ble_eq_true rfl, Nat.le_of_ble_eq_true rfl⟩ (sum8 rfl) er9 ?_
          refine g_if_eq X d_MO_count_84 99 (by decide) (fun q11 => ?_) (fun q11 => ?_)
          · have hf := ite_t q11 hf
            refine g_iload_n X d_MO_count_99 1 rfl ?_
            refine g_bipush X d_MO_count_100 (v := (nI 10)) rfl ?_
            refine g_ic_le X d_MO_count_102 123 (by decide) (fun q12 => ?_) (fun q12 => ?_)
            · have hf := ite_t q12 hf
              refine g_aload_n X d_MO_count_123 0 rfl ?_
              obtain ⟨r13, σ14, er13, hf⟩ := bd_some hf
              refine ca_MO_works X d_MO_count_124 wl_MO_169 ⟨Nat.le_of_ble_eq_true rfl, Nat.le_of_ble_eq_true rfl⟩ (sum8 rfl) er13 ?_
              refine g_iload_n X d_MO_count_127 1 rfl ?_
              refine g_iconst X d_MO_count_128 (v := (nI 2)) rfl ?_
              refine g_ic_ne X d_MO_count_129 139 (by decide) (fun q15 => ?_) (fun q15 => ?_)
              · have hf := ite_f q15 hf
                refine g_aload_n X d_MO_count_139 0 rfl ?_
                refine g_iload_n X d_MO_count_140 1 rfl ?_
                obtain ⟨r16, σ17, er16, hf⟩ := bd_some hf
                refine ca_MO_over X d_MO_count_141 wl_MO_187 ⟨Nat.le_of_ble_eq_true rfl, Nat.le_of_ble_eq_true rfl⟩ (sum8 rfl) er16 ?_
                exact g_iret X d_MO_count_144 hr hk9 hf
              · have hf := ite_t q15 hf
                refine g_aload_n X d_MO_count_132 0 rfl ?_
                refine gf_112_23 X d_MO_count_133 wl_MO_93 ?_
                refine g_goto X d_MO_count_136 144 (by decide) ?_
                exact g_iret X d_MO_count_144 hr hk9 hf
            · have hf := ite_f q12 hf
              refine g_iload_n X d_MO_count_105 1 rfl ?_
              refine g_bipush X d_MO_count_106 (v := (nI 11)) rfl ?_
              refine g_ic_ne X d_MO_count_108 118 (by decide) (fun q18 => ?_) (fun q18 => ?_)
              · have hf := ite_f q18 hf
                refine g_aload_n X d_MO_count_118 0 rfl ?_
                refine gf_112_5 X d_MO_count_119 wl_MO_146 ?_
                exact g_iret X d_MO_count_122 hr hk9 hf
              · have hf := ite_t q18 hf
                refine g_aload_n X d_MO_count_111 0 rfl ?_
                refine gf_112_4 X d_MO_count_112 wl_MO_70 ?_
                refine g_goto X d_MO_count_115 122 (by decide) ?_
                exact g_iret X d_MO_count_122 hr hk9 hf
          · have hf := ite_f q11 hf
            refine g_aload_n X d_MO_count_87 0 rfl ?_
            refine gf_112_0 X d_MO_count_88 wl_MO_7 ?_
            refine g_iconst X d_MO_count_91 (v := (nI 1)) rfl ?_
            refine g_iload_n X d_MO_count_92 1 rfl ?_
            refine g_iadd X d_MO_count_93 ?_
            refine g_bipush X d_MO_count_94 (v := (nI 7)) rfl ?_
            refine g_isub X d_MO_count_96 ?_
            obtain ⟨b19, hf⟩ := gd_some hf
            refine g_iald X d_MO_count_97 kd_113 b19 ?_
            exact g_iret X d_MO_count_98 hr hk9 hf
        · have hf := ite_t q8 hf
          exact w_MO_count_46 X hr hk9 _ _ hf
    · have hf := ite_t q6 hf
      refine g_bipush X d_MO_count_33 (v := (-2)) rfl ?_
      exact g_iret X d_MO_count_35 hr hk9 hf
  · have hf := ite_f q3 hf
    refine g_aload_n X d_MO_count_11 0 rfl ?_
    refine gf_112_0 X d_MO_count_12 wl_MO_7 ?_
    refine g_iconst X d_MO_count_15 (v := (nI 4)) rfl ?_
    refine g_iload_n X d_MO_count_16 1 rfl ?_
    refine g_iadd X d_MO_count_17 ?_
    refine g_bipush X d_MO_count_18 (v := (nI 21)) rfl ?_
    refine g_isub X d_MO_count_20 ?_
    obtain ⟨b20, hf⟩ := gd_some hf
    refine g_iald X d_MO_count_21 kd_113 b20 ?_
    exact g_iret X d_MO_count_22 hr hk9 hf
section
variable {R : Room} {kc ks : Nat} {Q : State → Prop} {nL : Nat} {cc : ByteArray} {own : String} {pc : Nat} {lv lv' : List (Nat × Value)} {st : List Value}
theorem ca_MO_count {x1 : Int32} (X : Cx Γ p R s m args c cc nL own kc ks) {idx : Nat} (hd : decode cc pc = .ok (.invokevirtual idx, 3)) (hlk : Cond.methodLink own idx y_MO_count ∈ lw_gt) (hR : 6 + 1 ≤ R.frames ∧ 8 + (2 + 11) + 135 ≤ R.locals) (hw : (st.map fun v => v.category).sum ≤ 8) {σ σ' : Sg} {r : Int32} (hf : f_MO_count x1 σ = some (r, σ')) (k : G Γ p l e R s m args below meth c kc ks Q nL (pc + 3) lv (.int r :: st) σ') : G Γ p l e R s m args below meth c kc ks Q nL pc lv (.int x1 :: .ref (Γ.2.2.1 112) :: st) σ :=
  g_callV (As := [.int x1]) (rest := st) X hd (c_MO_count' hf) co_MO_count hlk wn_MO_count wse_MO_count (by decide) kd_112 rfl hR rfl rfl hw k
end
end ZM4
