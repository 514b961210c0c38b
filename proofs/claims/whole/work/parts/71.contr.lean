section ZM1
variable {Γ : Gm} {p : Program} {l : Launch} {e : Env} {s : State} {m : MethodId} {args : Array Value} {below : List Frame} {meth : Method} {c : Code}
set_option maxRecDepth 10000 in
theorem c_CT_prize' {Γ : Gm} {l : Launch} {x1 : Int32} {x2 : Int32} {σ σ' : Sg} {r : Int32} (hf : f_CT_prize x1 x2 σ = some (r, σ')) : Ctr Γ l y_CT_prize c_CT_prize 4 (some .int) 4 81 [.ref (Γ.2.2.1 111), .int x1, .int x2] σ σ' (some (.int r)) := by
  refine Ctr.of (lv := [(0, .ref (Γ.2.2.1 111)), (1, .int x1), (2, .int x2)]) (by decide +kernel) (Nat.le_of_ble_eq_true rfl) rfl ?_
  intro p e s m args below meth c X hr hk9
  have X : Cx Γ p (z_rm 4 81) s m args c c_CT_prize 4 "CaptionTallies" 0 0 := X
  rw [f_CT_prize] at hf
  refine g_iload_n X d_CT_prize_0 1 rfl ?_
  refine g_iconst X d_CT_prize_1 (v := (nI 1)) rfl ?_
  refine g_ic_lt X d_CT_prize_2 21 (by decide) (fun q1 => ?_) (fun q1 => ?_)
  · have hf := ite_t q1 hf
    refine g_bipush X d_CT_prize_21 (v := (-2)) rfl ?_
    exact g_iret X d_CT_prize_23 hr hk9 hf
  · have hf := ite_f q1 hf
    refine g_iload_n X d_CT_prize_5 1 rfl ?_
    refine g_iconst X d_CT_prize_6 (v := (nI 5)) rfl ?_
    refine g_ic_gt X d_CT_prize_7 21 (by decide) (fun q2 => ?_) (fun q2 => ?_)
    · have hf := ite_t q2 hf
      refine g_bipush X d_CT_prize_21 (v := (-2)) rfl ?_
      exact g_iret X d_CT_prize_23 hr hk9 hf
    · have hf := ite_f q2 hf
      refine g_iload_n X d_CT_prize_10 2 rfl ?_
      refine g_if_lt X d_CT_prize_11 21 (by decide) (fun q3 => ?_) (fun q3 => ?_)
      · have hf := ite_t q3 hf
        refine g_bipush X d_CT_prize_21 (v := (-2)) rfl ?_
        exact g_iret X d_CT_prize_23 hr hk9 hf
      · have hf := ite_f q3 hf
        refine g_iload_n X d_CT_prize_14 2 rfl ?_
        refine g_sipush X d_CT_prize_15 (v := (nI 999)) rfl ?_
        refine g_ic_le X d_CT_prize_18 24 (by decide) (fun q4 => ?_) (fun q4 => ?_)
        · have hf := ite_t q4 hf
          refine g_aload_n X d_CT_prize_24 0 rfl ?_
          refine gf_111_1 X d_CT_prize_25 wl_CT_19 ?_
          refine g_iload_n X d_CT_prize_28 1 rfl ?_
          obtain ⟨r5, σ6, er5, hf⟩ := bd_some hf
          refine ca_ST_prizeOf X d_CT_prize_29 wl_CT_178 ⟨Nat.le_of_ble_eq_true rfl, Nat.le_of_ble_eq_true rfl⟩ (sum8 rfl) er5 ?_
          refine g_istore_n X d_CT_prize_32 rfl (lv' := [(3, .int r5), (0, .ref (Γ.2.2.1 111)), (1, .int x1), (2, .int x2)]) (Nat.le_of_ble_eq_true rfl) rfl ?_
          refine g_iload_n X d_CT_prize_33 0 rfl ?_
          refine g_iload_n X d_CT_prize_34 3 rfl ?_
          refine g_ic_ne X d_CT_prize_35 41 (by decide) (fun q7 => ?_) (fun q7 => ?_)
          · have hf := ite_f q7 hf
            refine g_aload_n X d_CT_prize_41 1 rfl ?_
            refine gf_111_2 X d_CT_prize_42 wl_CT_26 ?_
            refine g_aload_n X d_CT_prize_45 1 rfl ?_
            refine gf_111_1 X d_CT_prize_46 wl_CT_19 ?_
            obtain ⟨r8, σ9, er8, hf⟩ := bd_some hf
            refine ca_HI_record X d_CT_prize_49 wl_CT_97 ⟨Nat.le_of_ble_eq_true rfl, Nat.le_of_ble_eq_true rfl⟩ (sum8 rfl) er8 ?_
            refine g_aload_n X d_CT_prize_52 1 rfl ?_
            refine gf_111_1 X d_CT_prize_53 wl_CT_19 ?_
            refine g_iload_n X d_CT_prize_56 2 rfl ?_
            refine g_iload_n X d_CT_prize_57 3 rfl ?_
            obtain ⟨r10, σ11, er10, hf⟩ := bd_some hf
            refine ca_ST_changePrize X d_CT_prize_58 wl_CT_181 ⟨Nat.le_of_ble_eq_true rfl, Nat.le_of_ble_eq_true rfl⟩ (sum8 rfl) er10 ?_
            refine g_iload_n X d_CT_prize_61 0 rfl ?_
            exact g_iret X d_CT_prize_62 hr hk9 hf
          · have hf := ite_t q7 hf
            refine g_bipush X d_CT_prize_38 (v := (-5)) rfl ?_
            exact g_iret X d_CT_prize_40 hr hk9 hf
        · have hf := ite_f q4 hf
          refine g_bipush X d_CT_prize_21 (v := (-2)) rfl ?_
          exact g_iret X d_CT_prize_23 hr hk9 hf
section
variable {R : Room} {kc ks : Nat} {Q : State → Prop} {nL : Nat} {cc : ByteArray} {own : String} {pc : Nat} {lv lv' : List (Nat × Value)} {st : List Value}
theorem ca_CT_prize {x1 : Int32} {x2 : Int32} (X : Cx Γ p R s m args c cc nL own kc ks) {idx : Nat} (hd : decode cc pc = .ok (.invokevirtual idx, 3)) (hlk : Cond.methodLink own idx y_CT_prize ∈ lw_gt) (hR : 4 + 1 ≤ R.frames ∧ 8 + (4 + 11) + 81 ≤ R.locals) (hw : (st.map fun v => v.category).sum ≤ 8) {σ σ' : Sg} {r : Int32} (hf : f_CT_prize x1 x2 σ = some (r, σ')) (k : G Γ p l e R s m args below meth c kc ks Q nL (pc + 3) lv (.int r :: st) σ') : G Γ p l e R s m args below meth c kc ks Q nL pc lv (.int x2 :: .int x1 :: .ref (Γ.2.2.1 111) :: st) σ :=
  g_callV (As := [.int x1, .int x2]) (rest := st) X hd (c_CT_prize' hf) co_CT_prize hlk wn_CT_prize wse_CT_prize (by decide) kd_111 rfl hR rfl rfl hw k
end
set_option maxRecDepth 10000 in
theorem c_DR_append' {Γ : Gm} {l : Launch} {x1 : Int32} {σ σ' : Sg} {r : Int32} (hf : f_DR_append x1 σ = some (r, σ')) : Ctr Γ l y_DR_append c_DR_append 2 none 1 22 [.ref (Γ.2.2.1 78), .int x1] σ σ' none := by
  refine Ctr.of (lv := [(0, .ref (Γ.2.2.1 78)), (1, .int x1)]) (by decide +kernel) (Nat.le_of_ble_eq_true rfl) rfl ?_
  intro p e s m args below meth c X hr hk9
  have X : Cx Γ p (z_rm 1 22) s m args c c_DR_append 2 "CaptionTallies$Draft" 0 0 := X
  rw [f_DR_append] at hf
  refine g_aload_n X d_DR_append_0 0 rfl ?_
  refine gf_78_1 X d_DR_append_1 wl_DR_15 ?_
  refine g_bipush X d_DR_append_4 (v := (nI 60)) rfl ?_
  refine g_ic_ge X d_DR_append_6 31 (by decide) (fun q1 => ?_) (fun q1 => ?_)
  · have hf := ite_t q1 hf
    exact g_vret X d_DR_append_31 hr hk9 hf
  · have hf := ite_f q1 hf
    refine g_aload_n X d_DR_append_9 0 rfl ?_
    refine gf_78_0 X d_DR_append_10 wl_DR_9 ?_
    refine g_aload_n X d_DR_append_13 0 rfl ?_
    refine gf_78_1 X d_DR_append_14 wl_DR_15 ?_
    refine g_iload_n X d_DR_append_17 1 rfl ?_
    obtain ⟨r2, σ3, er2, hf⟩ := bd_some hf
    refine can_CT_put X d_DR_append_18 wl_DR_23 ⟨Nat.le_of_ble_eq_true rfl, Nat.le_of_ble_eq_true rfl⟩ (sum8 rfl) kd_79 er2 ?_
    refine g_aload_n X d_DR_append_21 0 rfl ?_
    refine g_dup X d_DR_append_22 rfl ?_
    refine gf_78_1 X d_DR_append_23 wl_DR_15 ?_
    refine g_iconst X d_DR_append_26 (v := (nI 1)) rfl ?_
    refine g_iadd X d_DR_append_27 ?_
    obtain ⟨σ4, eσ4, hf⟩ := lt_ex hf
    refine gp_78_1 X d_DR_append_28 wl_DR_15 eσ4 ?_
    exact g_vret X d_DR_append_31 hr hk9 hf
section
variable {R : Room} {kc ks : Nat} {Q : State → Prop} {nL : Nat} {cc : ByteArray} {own : String} {pc : Nat} {lv lv' : List (Nat × Value)} {st : List Value}
theorem ca_DR_append {x1 : Int32} (X : Cx Γ p R s m args c cc nL own kc ks) {idx : Nat} (hd : decode cc pc = .ok (.invokevirtual idx, 3)) (hlk : Cond.methodLink own idx y_DR_append ∈ lw_gt) (hR : 1 + 1 ≤ R.frames ∧ 8 + (2 + 11) + 22 ≤ R.locals) (hw : (st.map fun v => v.category).sum ≤ 8) {σ σ' : Sg} {r : Int32} (hf : f_DR_append x1 σ = some (r, σ')) (k : G Γ p l e R s m args below meth c kc ks Q nL (pc + 3) lv (st) σ') : G Γ p l e R s m args below meth c kc ks Q nL pc lv (.int x1 :: .ref (Γ.2.2.1 78) :: st) σ :=
  g_callV (As := [.int x1]) (rest := st) X hd (c_DR_append' hf) co_DR_append hlk wn_DR_append wse_DR_append (by decide) kd_78 rfl hR rfl rfl hw k
end
set_option maxRecDepth 10000 in
theorem c_CT_type' {Γ : Gm} {l : Launch} {x1 : Int32} {σ σ' : Sg} {r : Int32} (hf : f_CT_type x1 σ = some (r, σ')) : Ctr Γ l y_CT_type c_CT_type 2 (some .int) 2 43 [.ref (Γ.2.2.1 111), .int x1] σ σ' (some (.int r)) := by
  refine Ctr.of (lv := [(0, .ref (Γ.2.2.1 111)), (1, .int x1)]) (by decide +kernel) (Nat.le_of_ble_eq_true rfl) rfl ?_
  intro p e s m args below meth c X hr hk9
  have X : Cx Γ p (z_rm 2 43) s m args c c_CT_type 2 "CaptionTallies" 0 0 := X
  rw [f_CT_type] at hf
  refine g_aload_n X d_CT_type_0 0 rfl ?_
  refine gf_111_0 X d_CT_type_1 wl_CT_10 ?_
  obtain ⟨r1, σ2, er1, hf⟩ := bd_some hf
  refine ca_DR_length X d_CT_type_4 wl_CT_184 ⟨Nat.le_of_ble_eq_true rfl, Nat.le_of_ble_eq_true rfl⟩ (sum8 rfl) er1 ?_
  refine g_bipush X d_CT_type_7 (v := (nI 60)) rfl ?_
  refine g_ic_lt X d_CT_type_9 15 (by decide) (fun q3 => ?_) (fun q3 => ?_)
  · have hf := ite_t q3 hf
    refine g_aload_n X d_CT_type_15 0 rfl ?_
    refine gf_111_0 X d_CT_type_16 wl_CT_10 ?_
    refine g_iload_n X d_CT_type_19 1 rfl ?_
    obtain ⟨r4, σ5, er4, hf⟩ := bd_some hf
    refine ca_DR_append X d_CT_type_20 wl_CT_187 ⟨Nat.le_of_ble_eq_true rfl, Nat.le_of_ble_eq_true rfl⟩ (sum8 rfl) er4 ?_
    refine g_aload_n X d_CT_type_23 0 rfl ?_
    refine gf_111_0 X d_CT_type_24 wl_CT_10 ?_
    obtain ⟨r6, σ7, er6, hf⟩ := bd_some hf
    refine ca_DR_length X d_CT_type_27 wl_CT_184 ⟨Nat.le_of_ble_eq_true rfl, Nat.le_of_ble_eq_true rfl⟩ (sum8 rfl) er6 ?_
    exact g_iret X d_CT_type_30 hr hk9 hf
  · have hf := ite_f q3 hf
    refine g_bipush X d_CT_type_12 (v := (-3)) rfl ?_
    exact g_iret X d_CT_type_14 hr hk9 hf
section
variable {R : Room} {kc ks : Nat} {Q : State → Prop} {nL : Nat} {cc : ByteArray} {own : String} {pc : Nat} {lv lv' : List (Nat × Value)} {st : List Value}
theorem ca_CT_type {x1 : Int32} (X : Cx Γ p R s m args c cc nL own kc ks) {idx : Nat} (hd : decode cc pc = .ok (.invokevirtual idx, 3)) (hlk : Cond.methodLink own idx y_CT_type ∈ lw_gt) (hR : 2 + 1 ≤ R.frames ∧ 8 + (2 + 11) + 43 ≤ R.locals) (hw : (st.map fun v => v.category).sum ≤ 8) {σ σ' : Sg} {r : Int32} (hf : f_CT_type x1 σ = some (r, σ')) (k : G Γ p l e R s m args below meth c kc ks Q nL (pc + 3) lv (.int r :: st) σ') : G Γ p l e R s m args below meth c kc ks Q nL pc lv (.int x1 :: .ref (Γ.2.2.1 111) :: st) σ :=
  g_callV (As := [.int x1]) (rest := st) X hd (c_CT_type' hf) co_CT_type hlk wn_CT_type wse_CT_type (by decide) kd_111 rfl hR rfl rfl hw k
end
set_option maxRecDepth 10000 in
theorem c_DR_empty' {Γ : Gm} {l : Launch} {σ σ' : Sg} {r : Int32} (hf : f_DR_empty σ = some (r, σ')) : Ctr Γ l y_DR_empty c_DR_empty 1 none 0 0 [.ref (Γ.2.2.1 78)] σ σ' none := by
  refine Ctr.of (lv := [(0, .ref (Γ.2.2.1 78))]) (by decide +kernel) (Nat.le_of_ble_eq_true rfl) rfl ?_
  intro p e s m args below meth c X hr hk9
  have X : Cx Γ p (z_rm 0 0) s m args c c_DR_empty 1 "CaptionTallies$Draft" 0 0 := X
  rw [f_DR_empty] at hf
  refine g_aload_n X d_DR_empty_0 0 rfl ?_
  refine g_iconst X d_DR_empty_1 (v := (nI 0)) rfl ?_
  obtain ⟨σ1, eσ1, hf⟩ := lt_ex hf
  refine gp_78_1 X d_DR_empty_2 wl_DR_15 eσ1 ?_
  exact g_vret X d_DR_empty_5 hr hk9 hf
section
variable {R : Room} {kc ks : Nat} {Q : State → Prop} {nL : Nat} {cc : ByteArray} {own : String} {pc : Nat} {lv lv' : List (Nat × Value)} {st : List Value}
theorem ca_DR_empty (X : Cx Γ p R s m args c cc nL own kc ks) {idx : Nat} (hd : decode cc pc = .ok (.invokevirtual idx, 3)) (hlk : Cond.methodLink own idx y_DR_empty ∈ lw_gt) (hR : 0 + 1 ≤ R.frames ∧ 8 + (1 + 11) + 0 ≤ R.locals) (hw : (st.map fun v => v.category).sum ≤ 8) {σ σ' : Sg} {r : Int32} (hf : f_DR_empty σ = some (r, σ')) (k : G Γ p l e R s m args below meth c kc ks Q nL (pc + 3) lv (st) σ') : G Γ p l e R s m args below meth c kc ks Q nL pc lv (.ref (Γ.2.2.1 78) :: st) σ :=
  g_callV (As := []) (rest := st) X hd (c_DR_empty' hf) co_DR_empty hlk wn_DR_empty wse_DR_empty (by decide) kd_78 rfl hR rfl rfl hw k
end
set_option maxRecDepth 10000 in
theorem c_CT_clearText' {Γ : Gm} {l : Launch} {σ σ' : Sg} {r : Int32} (hf : f_CT_clearText σ = some (r, σ')) : Ctr Γ l y_CT_clearText c_CT_clearText 2 (some .int) 1 20 [.ref (Γ.2.2.1 111)] σ σ' (some (.int r)) := by
  refine Ctr.of (lv := [(0, .ref (Γ.2.2.1 111))]) (by decide +kernel) (Nat.le_of_ble_eq_true rfl) rfl ?_
  intro p e s m args below meth c X hr hk9
  have X : Cx Γ p (z_rm 1 20) s m args c c_CT_clearText 2 "CaptionTallies" 0 0 := X
  rw [f_CT_clearText] at hf
  refine g_aload_n X d_CT_clearText_0 0 rfl ?_
  refine gf_111_0 X d_CT_clearText_1 wl_CT_10 ?_
  obtain ⟨r1, σ2, er1, hf⟩ := bd_some hf
  refine ca_DR_length X d_CT_clearText_4 wl_CT_184 ⟨Nat.le_of_ble_eq_true rfl, Nat.le_of_ble_eq_true rfl⟩ (sum8 rfl) er1 ?_
  refine g_istore_n X d_CT_clearText_7 rfl (lv' := [(1, .int r1), (0, .ref (Γ.2.2.1 111))]) (Nat.le_of_ble_eq_true rfl) rfl ?_
  refine g_aload_n X d_CT_clearText_8 1 rfl ?_
  refine gf_111_0 X d_CT_clearText_9 wl_CT_10 ?_
  obtain ⟨r3, σ4, er3, hf⟩ := bd_some hf
  refine ca_DR_empty X d_CT_clearText_12 wl_CT_191 ⟨Nat.le_of_ble_eq_true rfl, Nat.le_of_ble_eq_true rfl⟩ (sum8 rfl) er3 ?_
  refine g_iload_n X d_CT_clearText_15 0 rfl ?_
  exact g_iret X d_CT_clearText_16 hr hk9 hf
section
variable {R : Room} {kc ks : Nat} {Q : State → Prop} {nL : Nat} {cc : ByteArray} {own : String} {pc : Nat} {lv lv' : List (Nat × Value)} {st : List Value}
theorem ca_CT_clearText (X : Cx Γ p R s m args c cc nL own kc ks) {idx : Nat} (hd : decode cc pc = .ok (.invokevirtual idx, 3)) (hlk : Cond.methodLink own idx y_CT_clearText ∈ lw_gt) (hR : 1 + 1 ≤ R.frames ∧ 8 + (2 + 11) + 20 ≤ R.locals) (hw : (st.map fun v => v.category).sum ≤ 8) {σ σ' : Sg} {r : Int32} (hf : f_CT_clearText σ = some (r, σ')) (k : G Γ p l e R s m args below meth c kc ks Q nL (pc + 3) lv (.int r :: st) σ') : G Γ p l e R s m args below meth c kc ks Q nL pc lv (.ref (Γ.2.2.1 111) :: st) σ :=
  g_callV (As := []) (rest := st) X hd (c_CT_clearText' hf) co_CT_clearText hlk wn_CT_clearText wse_CT_clearText (by decide) kd_111 rfl hR rfl rfl hw k
end
set_option maxRecDepth 10000 in
theorem c_HI_size' {Γ : Gm} {l : Launch} {σ σ' : Sg} {r : Int32} (hf : f_HI_size σ = some (r, σ')) : Ctr Γ l y_HI_size c_HI_size 1 (some .int) 0 0 [.ref (Γ.2.2.1 80)] σ σ' (some (.int r)) := by
  refine Ctr.of (lv := [(0, .ref (Γ.2.2.1 80))]) (by decide +kernel) (Nat.le_of_ble_eq_true rfl) rfl ?_
  intro p e s m args below meth c X hr hk9
  have X : Cx Γ p (z_rm 0 0) s m args c c_HI_size 1 "CaptionTallies$History" 0 0 := X
  rw [f_HI_size] at hf
  refine g_aload_n X d_HI_size_0 0 rfl ?_
  refine gf_80_1 X d_HI_size_1 wl_HI_18 ?_
  exact g_iret X d_HI_size_4 hr hk9 hf
section
variable {R : Room} {kc ks : Nat} {Q : State → Prop} {nL : Nat} {cc : ByteArray} {own : String} {pc : Nat} {lv lv' : List (Nat × Value)} {st : List Value}
theorem ca_HI_size (X : Cx Γ p R s m args c cc nL own kc ks) {idx : Nat} (hd : decode cc pc = .ok (.invokevirtual idx, 3)) (hlk : Cond.methodLink own idx y_HI_size ∈ lw_gt) (hR : 0 + 1 ≤ R.frames ∧ 8 + (1 + 11) + 0 ≤ R.locals) (hw : (st.map fun v => v.category).sum ≤ 8) {σ σ' : Sg} {r : Int32} (hf : f_HI_size σ = some (r, σ')) (k : G Γ p l e R s m args below meth c kc ks Q nL (pc + 3) lv (.int r :: st) σ') : G Γ p l e R s m args below meth c kc ks Q nL pc lv (.ref (Γ.2.2.1 80) :: st) σ :=
  g_callV (As := []) (rest := st) X hd (c_HI_size' hf) co_HI_size hlk wn_HI_size wse_HI_size (by decide) kd_80 rfl hR rfl rfl hw k
end
set_option maxRecDepth 10000 in
theorem c_HI_takeBack' {Γ : Gm} {l : Launch} {σ σ' : Sg} {r : Int32} (hf : f_HI_takeBack σ = some (r, σ')) : Ctr Γ l y_HI_takeBack c_HI_takeBack 2 none 3 60 [.ref (Γ.2.2.1 80), .ref (Γ.2.2.1 0)] σ σ' none := by
  refine Ctr.of (lv := [(0, .ref (Γ.2.2.1 80)), (1, .ref (Γ.2.2.1 0))]) (by decide +kernel) (Nat.le_of_ble_eq_true rfl) rfl ?_
  intro p e s m args below meth c X hr hk9
  have X : Cx Γ p (z_rm 3 60) s m args c c_HI_takeBack 2 "CaptionTallies$History" 0 0 := X
  rw [f_HI_takeBack] at hf
  refine g_aload_n X d_HI_takeBack_0 0 rfl ?_
  refine gf_80_1 X d_HI_takeBack_1 wl_HI_18 ?_
  refine g_iconst X d_HI_takeBack_4 (v := (nI 1)) rfl ?_
  refine g_isub X d_HI_takeBack_5 ?_
  refine g_iconst X d_HI_takeBack_6 (v := (nI 4)) rfl ?_
  obtain ⟨r1, σ2, er1, hf⟩ := bd_some hf
  refine can_CT_isIndex X d_HI_takeBack_7 wl_HI_25 ⟨Nat.le_of_ble_eq_true rfl, Nat.le_of_ble_eq_true rfl⟩ (sum8 rfl) er1 ?_
  refine g_if_eq X d_HI_takeBack_10 36 (by decide) (fun q3 => ?_) (fun q3 => ?_)
  · have hf := ite_t q3 hf
    exact g_vret X d_HI_takeBack_36 hr hk9 hf
  · have hf := ite_f q3 hf
    refine g_aload_n X d_HI_takeBack_13 0 rfl ?_
    refine g_dup X d_HI_takeBack_14 rfl ?_
    refine gf_80_1 X d_HI_takeBack_15 wl_HI_18 ?_
    refine g_iconst X d_HI_takeBack_18 (v := (nI 1)) rfl ?_
    refine g_isub X d_HI_takeBack_19 ?_
    obtain ⟨σ4, eσ4, hf⟩ := lt_ex hf
    refine gp_80_1 X d_HI_takeBack_20 wl_HI_18 eσ4 ?_
    refine g_aload_n X d_HI_takeBack_23 1 rfl ?_
    refine g_aload_n X d_HI_takeBack_24 0 rfl ?_
    refine gf_80_0 X d_HI_takeBack_25 wl_HI_11 ?_
    refine g_aload_n X d_HI_takeBack_28 0 rfl ?_
    refine gf_80_1 X d_HI_takeBack_29 wl_HI_18 ?_
    obtain ⟨b5, hf⟩ := gd_some hf
    refine g_qald X d_HI_takeBack_32 kd_81 b5 ?_
    obtain ⟨b6, hf⟩ := gd_some hf
    obtain ⟨r7, σ8, er7, hf⟩ := bd_some hf
    refine ca_ST_copyFrom X d_HI_takeBack_33 wl_HI_29 ⟨Nat.le_of_ble_eq_true rfl, Nat.le_of_ble_eq_true rfl⟩ (sum8 rfl) (by rfl) b6 er7 ?_
    exact g_vret X d_HI_takeBack_36 hr hk9 hf
section
variable {R : Room} {kc ks : Nat} {Q : State → Prop} {nL : Nat} {cc : ByteArray} {own : String} {pc : Nat} {lv lv' : List (Nat × Value)} {st : List Value}
theorem ca_HI_takeBack (X : Cx Γ p R s m args c cc nL own kc ks) {idx : Nat} (hd : decode cc pc = .ok (.invokevirtual idx, 3)) (hlk : Cond.methodLink own idx y_HI_takeBack ∈ lw_gt) (hR : 3 + 1 ≤ R.frames ∧ 8 + (2 + 11) + 60 ≤ R.locals) (hw : (st.map fun v => v.category).sum ≤ 8) {σ σ' : Sg} {r : Int32} (hf : f_HI_takeBack σ = some (r, σ')) (k : G Γ p l e R s m args below meth c kc ks Q nL (pc + 3) lv (st) σ') : G Γ p l e R s m args below meth c kc ks Q nL pc lv (.ref (Γ.2.2.1 0) :: .ref (Γ.2.2.1 80) :: st) σ :=
  g_callV (As := [.ref (Γ.2.2.1 0)]) (rest := st) X hd (c_HI_takeBack' hf) co_HI_takeBack hlk wn_HI_takeBack wse_HI_takeBack (by decide) kd_80 rfl hR rfl rfl hw k
end
set_option maxRecDepth 10000 in
theorem c_CT_undo' {Γ : Gm} {l : Launch} {σ σ' : Sg} {r : Int32} (hf : f_CT_undo σ = some (r, σ')) : Ctr Γ l y_CT_undo c_CT_undo 1 (some .int) 4 81 [.ref (Γ.2.2.1 111)] σ σ' (some (.int r)) := by
  refine Ctr.of (lv := [(0, .ref (Γ.2.2.1 111))]) (by decide +kernel) (Nat.le_of_ble_eq_true rfl) rfl ?_
  intro p e s m args below meth c X hr hk9
  have X : Cx Γ p (z_rm 4 81) s m args c c_CT_undo 1 "CaptionTallies" 0 0 := X
  rw [f_CT_undo] at hf
  refine g_aload_n X d_CT_undo_0 0 rfl ?_
  refine gf_111_2 X d_CT_undo_1 wl_CT_26 ?_
  obtain ⟨r1, σ2, er1, hf⟩ := bd_some hf
  refine ca_HI_size X d_CT_undo_4 wl_CT_194 ⟨Nat.le_of_ble_eq_true rfl, Nat.le_of_ble_eq_true rfl⟩ (sum8 rfl) er1 ?_
  refine g_if_ne X d_CT_undo_7 13 (by decide) (fun q3 => ?_) (fun q3 => ?_)
  · have hf := ite_f q3 hf
    refine g_aload_n X d_CT_undo_13 0 rfl ?_
    refine gf_111_2 X d_CT_undo_14 wl_CT_26 ?_
    refine g_aload_n X d_CT_undo_17 0 rfl ?_
    refine gf_111_1 X d_CT_undo_18 wl_CT_19 ?_
    obtain ⟨r4, σ5, er4, hf⟩ := bd_some hf
    refine ca_HI_takeBack X d_CT_undo_21 wl_CT_197 ⟨Nat.le_of_ble_eq_true rfl, Nat.le_of_ble_eq_true rfl⟩ (sum8 rfl) er4 ?_
    refine g_aload_n X d_CT_undo_24 0 rfl ?_
    refine gf_111_2 X d_CT_undo_25 wl_CT_26 ?_
    obtain ⟨r6, σ7, er6, hf⟩ := bd_some hf
    refine ca_HI_size X d_CT_undo_28 wl_CT_194 ⟨Nat.le_of_ble_eq_true rfl, Nat.le_of_ble_eq_true rfl⟩ (sum8 rfl) er6 ?_
    exact g_iret X d_CT_undo_31 hr hk9 hf
  · have hf := ite_t q3 hf
    refine g_bipush X d_CT_undo_10 (v := (-5)) rfl ?_
    exact g_iret X d_CT_undo_12 hr hk9 hf
section
variable {R : Room} {kc ks : Nat} {Q : State → Prop} {nL : Nat} {cc : ByteArray} {own : String} {pc : Nat} {lv lv' : List (Nat × Value)} {st : List Value}
theorem ca_CT_undo (X : Cx Γ p R s m args c cc nL own kc ks) {idx : Nat} (hd : decode cc pc = .ok (.invokevirtual idx, 3)) (hlk : Cond.methodLink own idx y_CT_undo ∈ lw_gt) (hR : 4 + 1 ≤ R.frames ∧ 8 + (1 + 11) + 81 ≤ R.locals) (hw : (st.map fun v => v.category).sum ≤ 8) {σ σ' : Sg} {r : Int32} (hf : f_CT_undo σ = some (r, σ')) (k : G Γ p l e R s m args below meth c kc ks Q nL (pc + 3) lv (.int r :: st) σ') : G Γ p l e R s m args below meth c kc ks Q nL pc lv (.ref (Γ.2.2.1 111) :: st) σ :=
  g_callV (As := []) (rest := st) X hd (c_CT_undo' hf) co_CT_undo hlk wn_CT_undo wse_CT_undo (by decide) kd_111 rfl hR rfl rfl hw k
end
set_option maxRecDepth 10000 in
theorem c_CT_keep' {Γ : Gm} {l : Launch} {σ σ' : Sg} {r : Int32} (hf : f_CT_keep σ = some (r, σ')) : Ctr Γ l y_CT_keep c_CT_keep 1 (some .int) 3 64 [.ref (Γ.2.2.1 111)] σ σ' (some (.int r)) := by
  refine Ctr.of (lv := [(0, .ref (Γ.2.2.1 111))]) (by decide +kernel) (Nat.le_of_ble_eq_true rfl) rfl ?_
  intro p e s m args below meth c X hr hk9
  have X : Cx Γ p (z_rm 3 64) s m args c c_CT_keep 1 "CaptionTallies" 0 0 := X
  rw [f_CT_keep] at hf
  refine g_aload_n X d_CT_keep_0 0 rfl ?_
  refine gf_111_3 X d_CT_keep_1 wl_CT_30 ?_
  refine g_aload_n X d_CT_keep_4 0 rfl ?_
  refine gf_111_1 X d_CT_keep_5 wl_CT_19 ?_
  obtain ⟨r1, σ2, er1, hf⟩ := bd_some hf
  refine ca_ST_copyFrom X d_CT_keep_8 wl_CT_200 ⟨Nat.le_of_ble_eq_true rfl, Nat.le_of_ble_eq_true rfl⟩ (sum8 rfl) (by rfl) (by rfl) er1 ?_
  refine g_aload_n X d_CT_keep_11 0 rfl ?_
  refine g_iconst X d_CT_keep_12 (v := (nI 1)) rfl ?_
  obtain ⟨σ3, eσ3, hf⟩ := lt_ex hf
  refine gp_111_4 X d_CT_keep_13 wl_CT_33 rfl eσ3 ?_
  refine g_aload_n X d_CT_keep_16 0 rfl ?_
  refine gf_111_1 X d_CT_keep_17 wl_CT_19 ?_
  obtain ⟨r4, σ5, er4, hf⟩ := bd_some hf
  refine ca_ST_captionsIn X d_CT_keep_20 wl_CT_113 ⟨Nat.le_of_ble_eq_true rfl, Nat.le_of_ble_eq_true rfl⟩ (sum8 rfl) er4 ?_
  exact g_iret X d_CT_keep_23 hr hk9 hf
section
variable {R : Room} {kc ks : Nat} {Q : State → Prop} {nL : Nat} {cc : ByteArray} {own : String} {pc : Nat} {lv lv' : List (Nat × Value)} {st : List Value}
theorem ca_CT_keep (X : Cx Γ p R s m args c cc nL own kc ks) {idx : Nat} (hd : decode cc pc = .ok (.invokevirtual idx, 3)) (hlk : Cond.methodLink own idx y_CT_keep ∈ lw_gt) (hR : 3 + 1 ≤ R.frames ∧ 8 + (1 + 11) + 64 ≤ R.locals) (hw : (st.map fun v => v.category).sum ≤ 8) {σ σ' : Sg} {r : Int32} (hf : f_CT_keep σ = some (r, σ')) (k : G Γ p l e R s m args below meth c kc ks Q nL (pc + 3) lv (.int r :: st) σ') : G Γ p l e R s m args below meth c kc ks Q nL pc lv (.ref (Γ.2.2.1 111) :: st) σ :=
  g_callV (As := []) (rest := st) X hd (c_CT_keep' hf) co_CT_keep hlk wn_CT_keep wse_CT_keep (by decide) kd_111 rfl hR rfl rfl hw k
end
set_option maxRecDepth 10000 in
theorem c_CT_restore' {Γ : Gm} {l : Launch} {σ σ' : Sg} {r : Int32} (hf : f_CT_restore σ = some (r, σ')) : Ctr Γ l y_CT_restore c_CT_restore 1 (some .int) 4 81 [.ref (Γ.2.2.1 111)] σ σ' (some (.int r)) := by
  refine Ctr.of (lv := [(0, .ref (Γ.2.2.1 111))]) (by decide +kernel) (Nat.le_of_ble_eq_true rfl) rfl ?_
  intro p e s m args below meth c X hr hk9
  have X : Cx Γ p (z_rm 4 81) s m args c c_CT_restore 1 "CaptionTallies" 0 0 := X
  rw [f_CT_restore] at hf
  refine g_aload_n X d_CT_restore_0 0 rfl ?_
  refine gf_111_4 X d_CT_restore_1 wl_CT_33 ?_
  refine g_if_ne X d_CT_restore_4 10 (by decide) (fun q1 => ?_) (fun q1 => ?_)
  · have hf := ite_f q1 hf
    refine g_aload_n X d_CT_restore_10 0 rfl ?_
    refine gf_111_2 X d_CT_restore_11 wl_CT_26 ?_
    refine g_aload_n X d_CT_restore_14 0 rfl ?_
    refine gf_111_1 X d_CT_restore_15 wl_CT_19 ?_
    obtain ⟨r2, σ3, er2, hf⟩ := bd_some hf
    refine ca_HI_record X d_CT_restore_18 wl_CT_97 ⟨Nat.le_of_ble_eq_true rfl, Nat.le_of_ble_eq_true rfl⟩ (sum8 rfl) er2 ?_
    refine g_aload_n X d_CT_restore_21 0 rfl ?_
    refine gf_111_1 X d_CT_restore_22 wl_CT_19 ?_
    refine g_aload_n X d_CT_restore_25 0 rfl ?_
    refine gf_111_3 X d_CT_restore_26 wl_CT_30 ?_
    obtain ⟨r4, σ5, er4, hf⟩ := bd_some hf
    refine ca_ST_copyFrom X d_CT_restore_29 wl_CT_200 ⟨Nat.le_of_ble_eq_true rfl, Nat.le_of_ble_eq_true rfl⟩ (sum8 rfl) (by rfl) (by rfl) er4 ?_
    refine g_aload_n X d_CT_restore_32 0 rfl ?_
    refine gf_111_1 X d_CT_restore_33 wl_CT_19 ?_
    obtain ⟨r6, σ7, er6, hf⟩ := bd_some hf
    refine ca_ST_captionsIn X d_CT_restore_36 wl_CT_113 ⟨Nat.le_of_ble_eq_true rfl, Nat.le_of_ble_eq_true rfl⟩ (sum8 rfl) er6 ?_
    exact g_iret X d_CT_restore_39 hr hk9 hf
  · have hf := ite_t q1 hf
    refine g_bipush X d_CT_restore_7 (v := (-5)) rfl ?_
    exact g_iret X d_CT_restore_9 hr hk9 hf
section
variable {R : Room} {kc ks : Nat} {Q : State → Prop} {nL : Nat} {cc : ByteArray} {own : String} {pc : Nat} {lv lv' : List (Nat × Value)} {st : List Value}
theorem ca_CT_restore (X : Cx Γ p R s m args c cc nL own kc ks) {idx : Nat} (hd : decode cc pc = .ok (.invokevirtual idx, 3)) (hlk : Cond.methodLink own idx y_CT_restore ∈ lw_gt) (hR : 4 + 1 ≤ R.frames ∧ 8 + (1 + 11) + 81 ≤ R.locals) (hw : (st.map fun v => v.category).sum ≤ 8) {σ σ' : Sg} {r : Int32} (hf : f_CT_restore σ = some (r, σ')) (k : G Γ p l e R s m args below meth c kc ks Q nL (pc + 3) lv (.int r :: st) σ') : G Γ p l e R s m args below meth c kc ks Q nL pc lv (.ref (Γ.2.2.1 111) :: st) σ :=
  g_callV (As := []) (rest := st) X hd (c_CT_restore' hf) co_CT_restore hlk wn_CT_restore wse_CT_restore (by decide) kd_111 rfl hR rfl rfl hw k
end
set_option maxRecDepth 10000 in
theorem c_CO_firstsOf' {Γ : Gm} {l : Launch} {x1 : Int32} {σ σ' : Sg} {r : Int32} (hf : f_CO_firstsOf x1 σ = some (r, σ')) : Ctr Γ l y_CO_firstsOf c_CO_firstsOf 2 (some .int) 1 21 [.ref (Γ.2.2.1 85), .int x1] σ σ' (some (.int r)) := by
  refine Ctr.of (lv := [(0, .ref (Γ.2.2.1 85)), (1, .int x1)]) (by decide +kernel) (Nat.le_of_ble_eq_true rfl) rfl ?_
  intro p e s m args below meth c X hr hk9
  have X : Cx Γ p (z_rm 1 21) s m args c c_CO_firstsOf 2 "CaptionTallies$Counts" 0 0 := X
  rw [f_CO_firstsOf] at hf
  refine g_aload_n X d_CO_firstsOf_0 0 rfl ?_
  refine gf_85_2 X d_CO_firstsOf_1 wl_CO_18 ?_
  refine g_iload_n X d_CO_firstsOf_4 1 rfl ?_
  obtain ⟨r1, σ2, er1, hf⟩ := bd_some hf
  refine can_CT_at X d_CO_firstsOf_5 wl_CO_58 ⟨Nat.le_of_ble_eq_true rfl, Nat.le_of_ble_eq_true rfl⟩ (sum8 rfl) kd_88 er1 ?_
  exact g_iret X d_CO_firstsOf_8 hr hk9 hf
section
variable {R : Room} {kc ks : Nat} {Q : State → Prop} {nL : Nat} {cc : ByteArray} {own : String} {pc : Nat} {lv lv' : List (Nat × Value)} {st : List Value}
theorem ca_CO_firstsOf {x1 : Int32} (X : Cx Γ p R s m args c cc nL own kc ks) {idx : Nat} (hd : decode cc pc = .ok (.invokevirtual idx, 3)) (hlk : Cond.methodLink own idx y_CO_firstsOf ∈ lw_gt) (hR : 1 + 1 ≤ R.frames ∧ 8 + (2 + 11) + 21 ≤ R.locals) (hw : (st.map fun v => v.category).sum ≤ 8) {σ σ' : Sg} {r : Int32} (hf : f_CO_firstsOf x1 σ = some (r, σ')) (k : G Γ p l e R s m args below meth c kc ks Q nL (pc + 3) lv (.int r :: st) σ') : G Γ p l e R s m args below meth c kc ks Q nL pc lv (.int x1 :: .ref (Γ.2.2.1 85) :: st) σ :=
  g_callV (As := [.int x1]) (rest := st) X hd (c_CO_firstsOf' hf) co_CO_firstsOf hlk wn_CO_firstsOf wse_CO_firstsOf (by decide) kd_85 rfl hR rfl rfl hw k
end
set_option maxRecDepth 10000 in
theorem c_CO_wish' {Γ : Gm} {l : Launch} {x1 : Int32} {x2 : Int32} {σ σ' : Sg} {r : Int32} (hf : f_CO_wish x1 x2 σ = some (r, σ')) : Ctr Γ l y_CO_wish c_CO_wish 3 (some .int) 1 21 [.ref (Γ.2.2.1 85), .int x1, .int x2] σ σ' (some (.int r)) := by
  refine Ctr.of (lv := [(0, .ref (Γ.2.2.1 85)), (1, .int x1), (2, .int x2)]) (by decide +kernel) (Nat.le_of_ble_eq_true rfl) rfl ?_
  intro p e s m args below meth c X hr hk9
  have X : Cx Γ p (z_rm 1 21) s m args c c_CO_wish 3 "CaptionTallies$Counts" 0 0 := X
  rw [f_CO_wish] at hf
  refine g_aload_n X d_CO_wish_0 0 rfl ?_
  refine gf_85_0 X d_CO_wish_1 wl_CO_9 ?_
  refine g_iload_n X d_CO_wish_4 1 rfl ?_
  refine g_iconst X d_CO_wish_5 (v := (nI 3)) rfl ?_
  refine g_imul X d_CO_wish_6 ?_
  refine g_iload_n X d_CO_wish_7 2 rfl ?_
  refine g_iadd X d_CO_wish_8 ?_
  obtain ⟨r1, σ2, er1, hf⟩ := bd_some hf
  refine can_CT_at X d_CO_wish_9 wl_CO_58 ⟨Nat.le_of_ble_eq_true rfl, Nat.le_of_ble_eq_true rfl⟩ (sum8 rfl) kd_86 er1 ?_
  exact g_iret X d_CO_wish_12 hr hk9 hf
section
variable {R : Room} {kc ks : Nat} {Q : State → Prop} {nL : Nat} {cc : ByteArray} {own : String} {pc : Nat} {lv lv' : List (Nat × Value)} {st : List Value}
theorem ca_CO_wish {x1 : Int32} {x2 : Int32} (X : Cx Γ p R s m args c cc nL own kc ks) {idx : Nat} (hd : decode cc pc = .ok (.invokevirtual idx, 3)) (hlk : Cond.methodLink own idx y_CO_wish ∈ lw_gt) (hR : 1 + 1 ≤ R.frames ∧ 8 + (3 + 11) + 21 ≤ R.locals) (hw : (st.map fun v => v.category).sum ≤ 8) {σ σ' : Sg} {r : Int32} (hf : f_CO_wish x1 x2 σ = some (r, σ')) (k : G Γ p l e R s m args below meth c kc ks Q nL (pc + 3) lv (.int r :: st) σ') : G Γ p l e R s m args below meth c kc ks Q nL pc lv (.int x2 :: .int x1 :: .ref (Γ.2.2.1 85) :: st) σ :=
  g_callV (As := [.int x1, .int x2]) (rest := st) X hd (c_CO_wish' hf) co_CO_wish hlk wn_CO_wish wse_CO_wish (by decide) kd_85 rfl hR rfl rfl hw k
end
set_option maxRecDepth 10000 in
theorem w_CO_hasGroup_3 {r : Int32} {σ' : Sg} (X : Cx Γ p (z_rm 2 43) s m args c c_CO_hasGroup 5 "CaptionTallies$Counts" 0 0) (hr : meth.sig.returnType = (some .boolean)) (hk9 : meth.locks = false) : ∀ (n9 : Nat) (x2 : Int32) (x3 : Int32) (x4 : Int32) (σ : Sg), f_CO_hasGroup_3 n9 x2 x3 x4 σ = some (r, σ') → G Γ p l e (z_rm 2 43) s m args below meth c 0 0 (MQ below (Qx Γ (some (.int r)) σ') args s 0 0 (fun q : Nat => Γ.2.2.2 ≤ q)) 5 3 [(0, .ref (Γ.2.2.1 85)), (1, .ref (Γ.2.2.1 82)), (2, .int x2), (3, .int x3), (4, .int x4)] [] σ := by
  intro n9
  induction n9 with
  | zero => intro x2 x3 x4 σ hf; cases hf
  | succ n9 ih =>
    intro x2 x3 x4 σ hf
    rw [f_CO_hasGroup_3] at hf
    refine g_iload X d_CO_hasGroup_3 4 rfl ?_
    refine g_iconst X d_CO_hasGroup_5 (v := (nI 3)) rfl ?_
    refine g_ic_ge X d_CO_hasGroup_6 32 (by decide) (fun q1 => ?_) (fun q1 => ?_)
    · have hf := ite_t q1 hf
      refine g_iconst X d_CO_hasGroup_32 (v := (nI 0)) rfl ?_
      exact g_zret X d_CO_hasGroup_33 hr hk9 rfl hf
    · have hf := ite_f q1 hf
      refine g_aload_n X d_CO_hasGroup_9 1 rfl ?_
      refine g_aload_n X d_CO_hasGroup_10 0 rfl ?_
      refine g_iload_n X d_CO_hasGroup_11 2 rfl ?_
      refine g_iload X d_CO_hasGroup_12 4 rfl ?_
      obtain ⟨r2, σ3, er2, hf⟩ := bd_some hf
      refine ca_CO_wish X d_CO_hasGroup_14 wl_CO_57 ⟨Nat.le_of_ble_eq_true rfl, Nat.le_of_ble_eq_true rfl⟩ (sum8 rfl) er2 ?_
      obtain ⟨r4, σ5, er4, hf⟩ := bd_some hf
      refine ca_GR_headOf X d_CO_hasGroup_17 wl_CO_37 ⟨Nat.le_of_ble_eq_true rfl, Nat.le_of_ble_eq_true rfl⟩ (sum8 rfl) er4 ?_
      refine g_iload_n X d_CO_hasGroup_20 3 rfl ?_
      refine g_ic_ne X d_CO_hasGroup_21 26 (by decide) (fun q6 => ?_) (fun q6 => ?_)
      · have hf := ite_f q6 hf
        refine g_iinc X d_CO_hasGroup_26 (j := 4) (lv' := [(4, .int (x4 + (nI 1))), (0, .ref (Γ.2.2.1 85)), (1, .ref (Γ.2.2.1 82)), (2, .int x2), (3, .int x3)]) rfl rfl (Nat.le_of_ble_eq_true rfl) rfl ?_
        refine g_goto X d_CO_hasGroup_29 3 (by decide) ?_
        refine g_sub [1, 2, 3, 4, 0] rfl ?_
        exact ih _ _ _ _ hf
      · have hf := ite_t q6 hf
        refine g_iconst X d_CO_hasGroup_24 (v := (nI 1)) rfl ?_
        exact g_zret X d_CO_hasGroup_25 hr hk9 rfl hf
set_option maxRecDepth 10000 in
theorem c_CO_hasGroup' {Γ : Gm} {l : Launch} {x2 : Int32} {x3 : Int32} {σ σ' : Sg} {r : Int32} (hf : f_CO_hasGroup x2 x3 σ = some (r, σ')) : Ctr Γ l y_CO_hasGroup c_CO_hasGroup 5 (some .boolean) 2 43 [.ref (Γ.2.2.1 85), .ref (Γ.2.2.1 82), .int x2, .int x3] σ σ' (some (.int r)) := by
  refine Ctr.of (lv := [(0, .ref (Γ.2.2.1 85)), (1, .ref (Γ.2.2.1 82)), (2, .int x2), (3, .int x3)]) (by decide +kernel) (Nat.le_of_ble_eq_true rfl) rfl ?_
  intro p e s m args below meth c X hr hk9
  have X : Cx Γ p (z_rm 2 43) s m args c c_CO_hasGroup 5 "CaptionTallies$Counts" 0 0 := X
  rw [f_CO_hasGroup] at hf
  refine g_iconst X d_CO_hasGroup_0 (v := (nI 0)) rfl ?_
  refine g_istore X d_CO_hasGroup_1 (lv' := [(4, .int (nI 0)), (0, .ref (Γ.2.2.1 85)), (1, .ref (Γ.2.2.1 82)), (2, .int x2), (3, .int x3)]) (Nat.le_of_ble_eq_true rfl) rfl ?_
  refine g_sub [1, 2, 3, 4, 0] rfl ?_
  exact w_CO_hasGroup_3 X hr hk9 _ _ _ _ _ hf
section
variable {R : Room} {kc ks : Nat} {Q : State → Prop} {nL : Nat} {cc : ByteArray} {own : String} {pc : Nat} {lv lv' : List (Nat × Value)} {st : List Value}
theorem ca_CO_hasGroup {x2 : Int32} {x3 : Int32} (X : Cx Γ p R s m args c cc nL own kc ks) {idx : Nat} (hd : decode cc pc = .ok (.invokevirtual idx, 3)) (hlk : Cond.methodLink own idx y_CO_hasGroup ∈ lw_gt) (hR : 2 + 1 ≤ R.frames ∧ 8 + (5 + 11) + 43 ≤ R.locals) (hw : (st.map fun v => v.category).sum ≤ 8) {σ σ' : Sg} {r : Int32} (hf : f_CO_hasGroup x2 x3 σ = some (r, σ')) (k : G Γ p l e R s m args below meth c kc ks Q nL (pc + 3) lv (.int r :: st) σ') : G Γ p l e R s m args below meth c kc ks Q nL pc lv (.int x3 :: .int x2 :: .ref (Γ.2.2.1 82) :: .ref (Γ.2.2.1 85) :: st) σ :=
  g_callV (As := [.ref (Γ.2.2.1 82), .int x2, .int x3]) (rest := st) X hd (c_CO_hasGroup' hf) co_CO_hasGroup hlk wn_CO_hasGroup wse_CO_hasGroup (by decide) kd_85 rfl hR rfl rfl hw k
end
set_option maxRecDepth 10000 in
theorem c_CO_pointsOf' {Γ : Gm} {l : Launch} {x1 : Int32} {σ σ' : Sg} {r : Int32} (hf : f_CO_pointsOf x1 σ = some (r, σ')) : Ctr Γ l y_CO_pointsOf c_CO_pointsOf 2 (some .int) 1 21 [.ref (Γ.2.2.1 85), .int x1] σ σ' (some (.int r)) := by
  refine Ctr.of (lv := [(0, .ref (Γ.2.2.1 85)), (1, .int x1)]) (by decide +kernel) (Nat.le_of_ble_eq_true rfl) rfl ?_
  intro p e s m args below meth c X hr hk9
  have X : Cx Γ p (z_rm 1 21) s m args c c_CO_pointsOf 2 "CaptionTallies$Counts" 0 0 := X
  rw [f_CO_pointsOf] at hf
  refine g_aload_n X d_CO_pointsOf_0 0 rfl ?_
  refine gf_85_1 X d_CO_pointsOf_1 wl_CO_15 ?_
  refine g_iload_n X d_CO_pointsOf_4 1 rfl ?_
  obtain ⟨r1, σ2, er1, hf⟩ := bd_some hf
  refine can_CT_at X d_CO_pointsOf_5 wl_CO_58 ⟨Nat.le_of_ble_eq_true rfl, Nat.le_of_ble_eq_true rfl⟩ (sum8 rfl) kd_87 er1 ?_
  exact g_iret X d_CO_pointsOf_8 hr hk9 hf
section
variable {R : Room} {kc ks : Nat} {Q : State → Prop} {nL : Nat} {cc : ByteArray} {own : String} {pc : Nat} {lv lv' : List (Nat × Value)} {st : List Value}
theorem ca_CO_pointsOf {x1 : Int32} (X : Cx Γ p R s m args c cc nL own kc ks) {idx : Nat} (hd : decode cc pc = .ok (.invokevirtual idx, 3)) (hlk : Cond.methodLink own idx y_CO_pointsOf ∈ lw_gt) (hR : 1 + 1 ≤ R.frames ∧ 8 + (2 + 11) + 21 ≤ R.locals) (hw : (st.map fun v => v.category).sum ≤ 8) {σ σ' : Sg} {r : Int32} (hf : f_CO_pointsOf x1 σ = some (r, σ')) (k : G Γ p l e R s m args below meth c kc ks Q nL (pc + 3) lv (.int r :: st) σ') : G Γ p l e R s m args below meth c kc ks Q nL pc lv (.int x1 :: .ref (Γ.2.2.1 85) :: st) σ :=
  g_callV (As := [.int x1]) (rest := st) X hd (c_CO_pointsOf' hf) co_CO_pointsOf hlk wn_CO_pointsOf wse_CO_pointsOf (by decide) kd_85 rfl hR rfl rfl hw k
end
set_option maxRecDepth 10000 in
theorem w_CO_fillBallot_6 {r : Int32} {σ' : Sg} (X : Cx Γ p (z_rm 3 67) s m args c c_CO_fillBallot 8 "CaptionTallies$Counts" 0 0) (hr : meth.sig.returnType = none) (hk9 : meth.locks = false) : ∀ (n9 : Nat) (x3 : Int32) (x4 : Int32) (x5 : Int32) (σ : Sg), f_CO_fillBallot_6 n9 x3 x4 x5 σ = some (r, σ') → G Γ p l e (z_rm 3 67) s m args below meth c 0 0 (MQ below (Qx Γ none σ') args s 0 0 (fun q : Nat => Γ.2.2.2 ≤ q)) 8 6 [(0, .ref (Γ.2.2.1 85)), (1, .ref (Γ.2.2.1 0)), (2, .ref (Γ.2.2.1 82)), (3, .int x3), (4, .int x4), (5, .int x5)] [] σ := by
  intro n9
  induction n9 with
  | zero => intro x3 x4 x5 σ hf; cases hf
  | succ n9 ih =>
    intro x3 x4 x5 σ hf
    rw [f_CO_fillBallot_6] at hf
    refine g_iload X d_CO_fillBallot_6 5 rfl ?_
    refine g_iconst X d_CO_fillBallot_8 (v := (nI 3)) rfl ?_
    refine g_ic_ge X d_CO_fillBallot_9 113 (by decide) (fun q1 => ?_) (fun q1 => ?_)
    · have hf := ite_t q1 hf
      exact g_vret X d_CO_fillBallot_113 hr hk9 hf
    · have hf := ite_f q1 hf
      refine g_aload_n X d_CO_fillBallot_12 1 rfl ?_
      refine g_iload_n X d_CO_fillBallot_13 3 rfl ?_
      refine g_iload X d_CO_fillBallot_14 5 rfl ?_
      obtain ⟨r2, σ3, er2, hf⟩ := bd_some hf
      refine ca_ST_wish X d_CO_fillBallot_16 wl_CO_31 ⟨Nat.le_of_ble_eq_true rfl, Nat.le_of_ble_eq_true rfl⟩ (sum8 rfl) er2 ?_
      refine g_istore X d_CO_fillBallot_19 (lv' := [(6, .int r2), (0, .ref (Γ.2.2.1 85)), (1, .ref (Γ.2.2.1 0)), (2, .ref (Γ.2.2.1 82)), (3, .int x3), (4, .int x4), (5, .int x5)]) (Nat.le_of_ble_eq_true rfl) rfl ?_
      refine g_aload_n X d_CO_fillBallot_21 3 rfl ?_
      refine g_iload X d_CO_fillBallot_22 0 rfl ?_
      obtain ⟨r4, σ5, er4, hf⟩ := bd_some hf
      refine ca_GR_headOf X d_CO_fillBallot_24 wl_CO_37 ⟨Nat.le_of_ble_eq_true rfl, Nat.le_of_ble_eq_true rfl⟩ (sum8 rfl) er4 ?_
      refine g_istore X d_CO_fillBallot_27 (lv' := [(7, .int r4), (6, .int r2), (0, .ref (Γ.2.2.1 85)), (1, .ref (Γ.2.2.1 0)), (2, .ref (Γ.2.2.1 82)), (3, .int x3), (4, .int x4), (5, .int x5)]) (Nat.le_of_ble_eq_true rfl) rfl ?_
      refine g_iload X d_CO_fillBallot_29 0 rfl ?_
      refine g_bipush X d_CO_fillBallot_31 (v := (-5)) rfl ?_
      refine g_ic_eq X d_CO_fillBallot_33 107 (by decide) (fun q6 => ?_) (fun q6 => ?_)
      · have hf := ite_t q6 hf
        refine g_iinc X d_CO_fillBallot_107 (j := 7) (lv' := [(5, .int (x5 + (nI 1))), (7, .int r4), (6, .int r2), (0, .ref (Γ.2.2.1 85)), (1, .ref (Γ.2.2.1 0)), (2, .ref (Γ.2.2.1 82)), (3, .int x3), (4, .int x4)]) rfl rfl (Nat.le_of_ble_eq_true rfl) rfl ?_
        refine g_goto X d_CO_fillBallot_110 6 (by decide) ?_
        refine g_sub [3, 4, 5, 6, 7, 0] rfl ?_
        exact ih _ _ _ _ hf
      · have hf := ite_f q6 hf
        refine g_aload_n X d_CO_fillBallot_36 2 rfl ?_
        refine g_aload_n X d_CO_fillBallot_37 4 rfl ?_
        refine g_iload_n X d_CO_fillBallot_38 5 rfl ?_
        refine g_iload X d_CO_fillBallot_39 0 rfl ?_
        obtain ⟨r7, σ8, er7, hf⟩ := bd_some hf
        refine ca_CO_hasGroup X d_CO_fillBallot_41 wl_CO_43 ⟨Nat.le_of_ble_eq_true rfl, Nat.le_of_ble_eq_true rfl⟩ (sum8 rfl) er7 ?_
        refine g_if_ne X d_CO_fillBallot_44 107 (by decide) (fun q9 => ?_) (fun q9 => ?_)
        · have hf := ite_f q9 hf
          refine g_iinc X d_CO_fillBallot_107 (j := 7) (lv' := [(5, .int (x5 + (nI 1))), (7, .int r4), (6, .int r2), (0, .ref (Γ.2.2.1 85)), (1, .ref (Γ.2.2.1 0)), (2, .ref (Γ.2.2.1 82)), (3, .int x3), (4, .int x4)]) rfl rfl (Nat.le_of_ble_eq_true rfl) rfl ?_
          refine g_goto X d_CO_fillBallot_110 6 (by decide) ?_
          refine g_sub [3, 4, 5, 6, 7, 0] rfl ?_
          exact ih _ _ _ _ hf
        · have hf := ite_t q9 hf
          refine g_aload_n X d_CO_fillBallot_47 2 rfl ?_
          refine gf_85_0 X d_CO_fillBallot_48 wl_CO_9 ?_
          refine g_iload_n X d_CO_fillBallot_51 5 rfl ?_
          refine g_iconst X d_CO_fillBallot_52 (v := (nI 3)) rfl ?_
          refine g_imul X d_CO_fillBallot_53 ?_
          refine g_iload X d_CO_fillBallot_54 6 rfl ?_
          refine g_iadd X d_CO_fillBallot_56 ?_
          refine g_iload X d_CO_fillBallot_57 1 rfl ?_
          obtain ⟨r10, σ11, er10, hf⟩ := bd_some hf
          refine can_CT_put X d_CO_fillBallot_59 wl_CO_47 ⟨Nat.le_of_ble_eq_true rfl, Nat.le_of_ble_eq_true rfl⟩ (sum8 rfl) kd_86 er10 ?_
          refine g_aload_n X d_CO_fillBallot_62 2 rfl ?_
          refine gf_85_1 X d_CO_fillBallot_63 wl_CO_15 ?_
          refine g_iload X d_CO_fillBallot_66 0 rfl ?_
          refine g_aload_n X d_CO_fillBallot_68 2 rfl ?_
          refine g_iload X d_CO_fillBallot_69 0 rfl ?_
          obtain ⟨r12, σ13, er12, hf⟩ := bd_some hf
          refine ca_CO_pointsOf X d_CO_fillBallot_71 wl_CO_51 ⟨Nat.le_of_ble_eq_true rfl, Nat.le_of_ble_eq_true rfl⟩ (sum8 rfl) er12 ?_
          refine g_iconst X d_CO_fillBallot_74 (v := (nI 3)) rfl ?_
          refine g_iadd X d_CO_fillBallot_75 ?_
          refine g_iload X d_CO_fillBallot_76 6 rfl ?_
          refine g_isub X d_CO_fillBallot_78 ?_
          obtain ⟨r14, σ15, er14, hf⟩ := bd_some hf
          refine can_CT_put X d_CO_fillBallot_79 wl_CO_47 ⟨Nat.le_of_ble_eq_true rfl, Nat.le_of_ble_eq_true rfl⟩ (sum8 rfl) kd_87 er14 ?_
          refine g_iload X d_CO_fillBallot_82 6 rfl ?_
          refine g_if_ne X d_CO_fillBallot_84 104 (by decide) (fun q16 => ?_) (fun q16 => ?_)
          · have hf := ite_f q16 hf
            refine g_iinc X d_CO_fillBallot_104 (j := 6) (lv' := [(4, .int (x4 + (nI 1))), (7, .int r4), (6, .int r2), (0, .ref (Γ.2.2.1 85)), (1, .ref (Γ.2.2.1 0)), (2, .ref (Γ.2.2.1 82)), (3, .int x3), (5, .int x5)]) rfl rfl (Nat.le_of_ble_eq_true rfl) rfl ?_
            refine g_iinc X d_CO_fillBallot_107 (j := 7) (lv' := [(5, .int (x5 + (nI 1))), (4, .int (x4 + (nI 1))), (7, .int r4), (6, .int r2), (0, .ref (Γ.2.2.1 85)), (1, .ref (Γ.2.2.1 0)), (2, .ref (Γ.2.2.1 82)), (3, .int x3)]) rfl rfl (Nat.le_of_ble_eq_true rfl) rfl ?_
            refine g_goto X d_CO_fillBallot_110 6 (by decide) ?_
            refine g_sub [4, 5, 6, 7, 1, 0] rfl ?_
            exact ih _ _ _ _ hf
          · have hf := ite_t q16 hf
            refine g_aload_n X d_CO_fillBallot_87 2 rfl ?_
            refine gf_85_2 X d_CO_fillBallot_88 wl_CO_18 ?_
            refine g_iload X d_CO_fillBallot_91 0 rfl ?_
            refine g_aload_n X d_CO_fillBallot_93 2 rfl ?_
            refine g_iload X d_CO_fillBallot_94 0 rfl ?_
            obtain ⟨r17, σ18, er17, hf⟩ := bd_some hf
            refine ca_CO_firstsOf X d_CO_fillBallot_96 wl_CO_54 ⟨Nat.le_of_ble_eq_true rfl, Nat.le_of_ble_eq_true rfl⟩ (sum8 rfl) er17 ?_
            refine g_iconst X d_CO_fillBallot_99 (v := (nI 1)) rfl ?_
            refine g_iadd X d_CO_fillBallot_100 ?_
            obtain ⟨r19, σ20, er19, hf⟩ := bd_some hf
            refine can_CT_put X d_CO_fillBallot_101 wl_CO_47 ⟨Nat.le_of_ble_eq_true rfl, Nat.le_of_ble_eq_true rfl⟩ (sum8 rfl) kd_88 er19 ?_
            refine g_iinc X d_CO_fillBallot_104 (j := 6) (lv' := [(4, .int (x4 + (nI 1))), (7, .int r4), (6, .int r2), (0, .ref (Γ.2.2.1 85)), (1, .ref (Γ.2.2.1 0)), (2, .ref (Γ.2.2.1 82)), (3, .int x3), (5, .int x5)]) rfl rfl (Nat.le_of_ble_eq_true rfl) rfl ?_
            refine g_iinc X d_CO_fillBallot_107 (j := 7) (lv' := [(5, .int (x5 + (nI 1))), (4, .int (x4 + (nI 1))), (7, .int r4), (6, .int r2), (0, .ref (Γ.2.2.1 85)), (1, .ref (Γ.2.2.1 0)), (2, .ref (Γ.2.2.1 82)), (3, .int x3)]) rfl rfl (Nat.le_of_ble_eq_true rfl) rfl ?_
            refine g_goto X d_CO_fillBallot_110 6 (by decide) ?_
            refine g_sub [4, 5, 6, 7, 1, 0] rfl ?_
            exact ih _ _ _ _ hf
set_option maxRecDepth 10000 in
theorem c_CO_fillBallot' {Γ : Gm} {l : Launch} {x3 : Int32} {σ σ' : Sg} {r : Int32} (hf : f_CO_fillBallot x3 σ = some (r, σ')) : Ctr Γ l y_CO_fillBallot c_CO_fillBallot 8 none 3 67 [.ref (Γ.2.2.1 85), .ref (Γ.2.2.1 0), .ref (Γ.2.2.1 82), .int x3] σ σ' none := by
  refine Ctr.of (lv := [(0, .ref (Γ.2.2.1 85)), (1, .ref (Γ.2.2.1 0)), (2, .ref (Γ.2.2.1 82)), (3, .int x3)]) (by decide +kernel) (Nat.le_of_ble_eq_true rfl) rfl ?_
  intro p e s m args below meth c X hr hk9
  have X : Cx Γ p (z_rm 3 67) s m args c c_CO_fillBallot 8 "CaptionTallies$Counts" 0 0 := X
  rw [f_CO_fillBallot] at hf
  refine g_iconst X d_CO_fillBallot_0 (v := (nI 0)) rfl ?_
  refine g_istore X d_CO_fillBallot_1 (lv' := [(4, .int (nI 0)), (0, .ref (Γ.2.2.1 85)), (1, .ref (Γ.2.2.1 0)), (2, .ref (Γ.2.2.1 82)), (3, .int x3)]) (Nat.le_of_ble_eq_true rfl) rfl ?_
  refine g_iconst X d_CO_fillBallot_3 (v := (nI 0)) rfl ?_
  refine g_istore X d_CO_fillBallot_4 (lv' := [(5, .int (nI 0)), (4, .int (nI 0)), (0, .ref (Γ.2.2.1 85)), (1, .ref (Γ.2.2.1 0)), (2, .ref (Γ.2.2.1 82)), (3, .int x3)]) (Nat.le_of_ble_eq_true rfl) rfl ?_
  refine g_sub [2, 3, 4, 5, 1, 0] rfl ?_
  exact w_CO_fillBallot_6 X hr hk9 _ _ _ _ _ hf
section
variable {R : Room} {kc ks : Nat} {Q : State → Prop} {nL : Nat} {cc : ByteArray} {own : String} {pc : Nat} {lv lv' : List (Nat × Value)} {st : List Value}
theorem ca_CO_fillBallot {x3 : Int32} (X : Cx Γ p R s m args c cc nL own kc ks) {idx : Nat} (hd : decode cc pc = .ok (.invokevirtual idx, 3)) (hlk : Cond.methodLink own idx y_CO_fillBallot ∈ lw_gt) (hR : 3 + 1 ≤ R.frames ∧ 8 + (8 + 11) + 67 ≤ R.locals) (hw : (st.map fun v => v.category).sum ≤ 8) {σ σ' : Sg} {r : Int32} (hf : f_CO_fillBallot x3 σ = some (r, σ')) (k : G Γ p l e R s m args below meth c kc ks Q nL (pc + 3) lv (st) σ') : G Γ p l e R s m args below meth c kc ks Q nL pc lv (.int x3 :: .ref (Γ.2.2.1 82) :: .ref (Γ.2.2.1 0) :: .ref (Γ.2.2.1 85) :: st) σ :=
  g_callV (As := [.ref (Γ.2.2.1 0), .ref (Γ.2.2.1 82), .int x3]) (rest := st) X hd (c_CO_fillBallot' hf) co_CO_fillBallot hlk wn_CO_fillBallot wse_CO_fillBallot (by decide) kd_85 rfl hR rfl rfl hw k
end
set_option maxRecDepth 10000 in
theorem w_CO_fill_27 {r : Int32} {σ' : Sg} (X : Cx Γ p (z_rm 4 94) s m args c c_CO_fill 4 "CaptionTallies$Counts" 0 0) (hr : meth.sig.returnType = none) (hk9 : meth.locks = false) : ∀ (n9 : Nat) (x3 : Int32) (σ : Sg), f_CO_fill_27 n9 x3 σ = some (r, σ') → G Γ p l e (z_rm 4 94) s m args below meth c 0 0 (MQ below (Qx Γ none σ') args s 0 0 (fun q : Nat => Γ.2.2.2 ≤ q)) 4 27 [(0, .ref (Γ.2.2.1 85)), (1, .ref (Γ.2.2.1 0)), (2, .ref (Γ.2.2.1 82)), (3, .int x3)] [] σ := by
  intro n9
  induction n9 with
  | zero => intro x3 σ hf; cases hf
  | succ n9 ih =>
    intro x3 σ hf
    rw [f_CO_fill_27] at hf
    refine g_iload_n X d_CO_fill_27 3 rfl ?_
    refine g_bipush X d_CO_fill_28 (v := (nI 12)) rfl ?_
    refine g_ic_ge X d_CO_fill_30 46 (by decide) (fun q1 => ?_) (fun q1 => ?_)
    · have hf := ite_t q1 hf
      exact g_vret X d_CO_fill_46 hr hk9 hf
    · have hf := ite_f q1 hf
      refine g_aload_n X d_CO_fill_33 0 rfl ?_
      refine g_aload_n X d_CO_fill_34 1 rfl ?_
      refine g_aload_n X d_CO_fill_35 2 rfl ?_
      refine g_iload_n X d_CO_fill_36 3 rfl ?_
      obtain ⟨r2, σ3, er2, hf⟩ := bd_some hf
      refine ca_CO_fillBallot X d_CO_fill_37 wl_CO_27 ⟨Nat.le_of_ble_eq_true rfl, Nat.le_of_ble_eq_true rfl⟩ (sum8 rfl) er2 ?_
      refine g_iinc X d_CO_fill_40 (j := 3) (lv' := [(3, .int (x3 + (nI 1))), (0, .ref (Γ.2.2.1 85)), (1, .ref (Γ.2.2.1 0)), (2, .ref (Γ.2.2.1 82))]) rfl rfl (Nat.le_of_ble_eq_true rfl) rfl ?_
      refine g_goto X d_CO_fill_43 27 (by decide) ?_
      refine g_sub [1, 2, 3, 0] rfl ?_
      exact ih _ _ hf
set_option maxRecDepth 10000 in
theorem c_CO_fill' {Γ : Gm} {l : Launch} {σ σ' : Sg} {r : Int32} (hf : f_CO_fill σ = some (r, σ')) : Ctr Γ l y_CO_fill c_CO_fill 4 none 4 94 [.ref (Γ.2.2.1 85), .ref (Γ.2.2.1 0), .ref (Γ.2.2.1 82)] σ σ' none := by
  refine Ctr.of (lv := [(0, .ref (Γ.2.2.1 85)), (1, .ref (Γ.2.2.1 0)), (2, .ref (Γ.2.2.1 82))]) (by decide +kernel) (Nat.le_of_ble_eq_true rfl) rfl ?_
  intro p e s m args below meth c X hr hk9
  have X : Cx Γ p (z_rm 4 94) s m args c c_CO_fill 4 "CaptionTallies$Counts" 0 0 := X
  rw [f_CO_fill] at hf
  refine g_aload_n X d_CO_fill_0 0 rfl ?_
  refine gf_85_0 X d_CO_fill_1 wl_CO_9 ?_
  refine g_bipush X d_CO_fill_4 (v := (-5)) rfl ?_
  obtain ⟨r1, σ2, er1, hf⟩ := bd_some hf
  refine ca_AR_fill X d_CO_fill_6 wl_CO_21 ⟨Nat.le_of_ble_eq_true rfl, Nat.le_of_ble_eq_true rfl⟩ (sum8 rfl) kd_86 er1 ?_
  refine g_aload_n X d_CO_fill_9 0 rfl ?_
  refine gf_85_1 X d_CO_fill_10 wl_CO_15 ?_
  refine g_iconst X d_CO_fill_13 (v := (nI 0)) rfl ?_
  obtain ⟨r3, σ4, er3, hf⟩ := bd_some hf
  refine ca_AR_fill X d_CO_fill_14 wl_CO_21 ⟨Nat.le_of_ble_eq_true rfl, Nat.le_of_ble_eq_true rfl⟩ (sum8 rfl) kd_87 er3 ?_
  refine g_aload_n X d_CO_fill_17 0 rfl ?_
  refine gf_85_2 X d_CO_fill_18 wl_CO_18 ?_
  refine g_iconst X d_CO_fill_21 (v := (nI 0)) rfl ?_
  obtain ⟨r5, σ6, er5, hf⟩ := bd_some hf
  refine ca_AR_fill X d_CO_fill_22 wl_CO_21 ⟨Nat.le_of_ble_eq_true rfl, Nat.le_of_ble_eq_true rfl⟩ (sum8 rfl) kd_88 er5 ?_
  refine g_iconst X d_CO_fill_25 (v := (nI 0)) rfl ?_
  refine g_istore_n X d_CO_fill_26 rfl (lv' := [(3, .int (nI 0)), (0, .ref (Γ.2.2.1 85)), (1, .ref (Γ.2.2.1 0)), (2, .ref (Γ.2.2.1 82))]) (Nat.le_of_ble_eq_true rfl) rfl ?_
  refine g_sub [1, 2, 3, 0] rfl ?_
  exact w_CO_fill_27 X hr hk9 _ _ _ hf
section
variable {R : Room} {kc ks : Nat} {Q : State → Prop} {nL : Nat} {cc : ByteArray} {own : String} {pc : Nat} {lv lv' : List (Nat × Value)} {st : List Value}
theorem ca_CO_fill (X : Cx Γ p R s m args c cc nL own kc ks) {idx : Nat} (hd : decode cc pc = .ok (.invokevirtual idx, 3)) (hlk : Cond.methodLink own idx y_CO_fill ∈ lw_gt) (hR : 4 + 1 ≤ R.frames ∧ 8 + (4 + 11) + 94 ≤ R.locals) (hw : (st.map fun v => v.category).sum ≤ 8) {σ σ' : Sg} {r : Int32} (hf : f_CO_fill σ = some (r, σ')) (k : G Γ p l e R s m args below meth c kc ks Q nL (pc + 3) lv (st) σ') : G Γ p l e R s m args below meth c kc ks Q nL pc lv (.ref (Γ.2.2.1 82) :: .ref (Γ.2.2.1 0) :: .ref (Γ.2.2.1 85) :: st) σ :=
  g_callV (As := [.ref (Γ.2.2.1 0), .ref (Γ.2.2.1 82)]) (rest := st) X hd (c_CO_fill' hf) co_CO_fill hlk wn_CO_fill wse_CO_fill (by decide) kd_85 rfl hR rfl rfl hw k
end
set_option maxRecDepth 10000 in
theorem c_RA_sumOf' {Γ : Gm} {l : Launch} {x1 : Int32} {σ σ' : Sg} {r : Int32} (hf : f_RA_sumOf x1 σ = some (r, σ')) : Ctr Γ l y_RA_sumOf c_RA_sumOf 2 (some .int) 1 21 [.ref (Γ.2.2.1 89), .int x1] σ σ' (some (.int r)) := by
  refine Ctr.of (lv := [(0, .ref (Γ.2.2.1 89)), (1, .int x1)]) (by decide +kernel) (Nat.le_of_ble_eq_true rfl) rfl ?_
  intro p e s m args below meth c X hr hk9
  have X : Cx Γ p (z_rm 1 21) s m args c c_RA_sumOf 2 "CaptionTallies$Ranks" 0 0 := X
  rw [f_RA_sumOf] at hf
  refine g_aload_n X d_RA_sumOf_0 0 rfl ?_
  refine gf_89_2 X d_RA_sumOf_1 wl_RA_18 ?_
  refine g_iload_n X d_RA_sumOf_4 1 rfl ?_
  obtain ⟨r1, σ2, er1, hf⟩ := bd_some hf
  refine can_CT_at X d_RA_sumOf_5 wl_RA_65 ⟨Nat.le_of_ble_eq_true rfl, Nat.le_of_ble_eq_true rfl⟩ (sum8 rfl) kd_92 er1 ?_
  exact g_iret X d_RA_sumOf_8 hr hk9 hf
section
variable {R : Room} {kc ks : Nat} {Q : State → Prop} {nL : Nat} {cc : ByteArray} {own : String} {pc : Nat} {lv lv' : List (Nat × Value)} {st : List Value}
theorem ca_RA_sumOf {x1 : Int32} (X : Cx Γ p R s m args c cc nL own kc ks) {idx : Nat} (hd : decode cc pc = .ok (.invokevirtual idx, 3)) (hlk : Cond.methodLink own idx y_RA_sumOf ∈ lw_gt) (hR : 1 + 1 ≤ R.frames ∧ 8 + (2 + 11) + 21 ≤ R.locals) (hw : (st.map fun v => v.category).sum ≤ 8) {σ σ' : Sg} {r : Int32} (hf : f_RA_sumOf x1 σ = some (r, σ')) (k : G Γ p l e R s m args below meth c kc ks Q nL (pc + 3) lv (.int r :: st) σ') : G Γ p l e R s m args below meth c kc ks Q nL pc lv (.int x1 :: .ref (Γ.2.2.1 89) :: st) σ :=
  g_callV (As := [.int x1]) (rest := st) X hd (c_RA_sumOf' hf) co_RA_sumOf hlk wn_RA_sumOf wse_RA_sumOf (by decide) kd_89 rfl hR rfl rfl hw k
end
set_option maxRecDepth 10000 in
theorem c_CT_scoreOf' {Γ : Gm} {l : Launch} {x1 : Int32} {σ σ' : Sg} {r : Int32} (hf : f_CT_scoreOf x1 σ = some (r, σ')) : Ctr Γ l y_CT_scoreOf c_CT_scoreOf 2 (some .int) 2 42 [.ref (Γ.2.2.1 111), .int x1] σ σ' (some (.int r)) := by
  refine Ctr.of (lv := [(0, .ref (Γ.2.2.1 111)), (1, .int x1)]) (by decide +kernel) (Nat.le_of_ble_eq_true rfl) rfl ?_
  intro p e s m args below meth c X hr hk9
  have X : Cx Γ p (z_rm 2 42) s m args c c_CT_scoreOf 2 "CaptionTallies" 0 0 := X
  rw [f_CT_scoreOf] at hf
  refine g_bipush X d_CT_scoreOf_0 (v := (nI 10)) rfl ?_
  refine g_aload_n X d_CT_scoreOf_2 0 rfl ?_
  refine gf_111_6 X d_CT_scoreOf_3 wl_CT_47 ?_
  refine g_iload_n X d_CT_scoreOf_6 1 rfl ?_
  obtain ⟨r1, σ2, er1, hf⟩ := bd_some hf
  refine ca_CO_pointsOf X d_CT_scoreOf_7 wl_CT_230 ⟨Nat.le_of_ble_eq_true rfl, Nat.le_of_ble_eq_true rfl⟩ (sum8 rfl) er1 ?_
  refine g_imul X d_CT_scoreOf_10 ?_
  refine g_aload_n X d_CT_scoreOf_11 0 rfl ?_
  refine gf_111_7 X d_CT_scoreOf_12 wl_CT_54 ?_
  refine g_iload_n X d_CT_scoreOf_15 1 rfl ?_
  obtain ⟨r3, σ4, er3, hf⟩ := bd_some hf
  refine ca_RA_sumOf X d_CT_scoreOf_16 wl_CT_236 ⟨Nat.le_of_ble_eq_true rfl, Nat.le_of_ble_eq_true rfl⟩ (sum8 rfl) er3 ?_
  refine g_isub X d_CT_scoreOf_19 ?_
  exact g_iret X d_CT_scoreOf_20 hr hk9 hf
section
variable {R : Room} {kc ks : Nat} {Q : State → Prop} {nL : Nat} {cc : ByteArray} {own : String} {pc : Nat} {lv lv' : List (Nat × Value)} {st : List Value}
theorem ca_CT_scoreOf {x1 : Int32} (X : Cx Γ p R s m args c cc nL own kc ks) {idx : Nat} (hd : decode cc pc = .ok (.invokevirtual idx, 3)) (hlk : Cond.methodLink own idx y_CT_scoreOf ∈ lw_gt) (hR : 2 + 1 ≤ R.frames ∧ 8 + (2 + 11) + 42 ≤ R.locals) (hw : (st.map fun v => v.category).sum ≤ 8) {σ σ' : Sg} {r : Int32} (hf : f_CT_scoreOf x1 σ = some (r, σ')) (k : G Γ p l e R s m args below meth c kc ks Q nL (pc + 3) lv (.int r :: st) σ') : G Γ p l e R s m args below meth c kc ks Q nL pc lv (.int x1 :: .ref (Γ.2.2.1 111) :: st) σ :=
  g_callV (As := [.int x1]) (rest := st) X hd (c_CT_scoreOf' hf) co_CT_scoreOf hlk wn_CT_scoreOf wse_CT_scoreOf (by decide) kd_111 rfl hR rfl rfl hw k
end
set_option maxRecDepth 10000 in
theorem c_RO_roundOf' {Γ : Gm} {l : Launch} {x1 : Int32} {σ σ' : Sg} {r : Int32} (hf : f_RO_roundOf x1 σ = some (r, σ')) : Ctr Γ l y_RO_roundOf c_RO_roundOf 2 (some .int) 1 21 [.ref (Γ.2.2.1 93), .int x1] σ σ' (some (.int r)) := by
  refine Ctr.of (lv := [(0, .ref (Γ.2.2.1 93)), (1, .int x1)]) (by decide +kernel) (Nat.le_of_ble_eq_true rfl) rfl ?_
  intro p e s m args below meth c X hr hk9
  have X : Cx Γ p (z_rm 1 21) s m args c c_RO_roundOf 2 "CaptionTallies$Rounds" 0 0 := X
  rw [f_RO_roundOf] at hf
  refine g_aload_n X d_RO_roundOf_0 0 rfl ?_
  refine gf_93_2 X d_RO_roundOf_1 wl_RO_19 ?_
  refine g_iload_n X d_RO_roundOf_4 1 rfl ?_
  obtain ⟨r1, σ2, er1, hf⟩ := bd_some hf
  refine can_CT_at X d_RO_roundOf_5 wl_RO_108 ⟨Nat.le_of_ble_eq_true rfl, Nat.le_of_ble_eq_true rfl⟩ (sum8 rfl) kd_96 er1 ?_
  exact g_iret X d_RO_roundOf_8 hr hk9 hf
section
variable {R : Room} {kc ks : Nat} {Q : State → Prop} {nL : Nat} {cc : ByteArray} {own : String} {pc : Nat} {lv lv' : List (Nat × Value)} {st : List Value}
theorem ca_RO_roundOf {x1 : Int32} (X : Cx Γ p R s m args c cc nL own kc ks) {idx : Nat} (hd : decode cc pc = .ok (.invokevirtual idx, 3)) (hlk : Cond.methodLink own idx y_RO_roundOf ∈ lw_gt) (hR : 1 + 1 ≤ R.frames ∧ 8 + (2 + 11) + 21 ≤ R.locals) (hw : (st.map fun v => v.category).sum ≤ 8) {σ σ' : Sg} {r : Int32} (hf : f_RO_roundOf x1 σ = some (r, σ')) (k : G Γ p l e R s m args below meth c kc ks Q nL (pc + 3) lv (.int r :: st) σ') : G Γ p l e R s m args below meth c kc ks Q nL pc lv (.int x1 :: .ref (Γ.2.2.1 93) :: st) σ :=
  g_callV (As := [.int x1]) (rest := st) X hd (c_RO_roundOf' hf) co_RO_roundOf hlk wn_RO_roundOf wse_RO_roundOf (by decide) kd_93 rfl hR rfl rfl hw k
end
set_option maxRecDepth 10000 in
theorem c_CT_keyOf' {Γ : Gm} {l : Launch} {x1 : Int32} {σ σ' : Sg} {r : Int32} (hf : f_CT_keyOf x1 σ = some (r, σ')) : Ctr Γ l y_CT_keyOf c_CT_keyOf 4 (some .int) 3 63 [.ref (Γ.2.2.1 111), .int x1] σ σ' (some (.int r)) := by
  refine Ctr.of (lv := [(0, .ref (Γ.2.2.1 111)), (1, .int x1)]) (by decide +kernel) (Nat.le_of_ble_eq_true rfl) rfl ?_
  intro p e s m args below meth c X hr hk9
  have X : Cx Γ p (z_rm 3 63) s m args c c_CT_keyOf 4 "CaptionTallies" 0 0 := X
  rw [f_CT_keyOf] at hf
  refine g_aload_n X d_CT_keyOf_0 0 rfl ?_
  refine gf_111_1 X d_CT_keyOf_1 wl_CT_19 ?_
  refine g_iconst X d_CT_keyOf_4 (v := (nI 0)) rfl ?_
  obtain ⟨r1, σ2, er1, hf⟩ := bd_some hf
  refine ca_ST_setting X d_CT_keyOf_5 wl_CT_172 ⟨Nat.le_of_ble_eq_true rfl, Nat.le_of_ble_eq_true rfl⟩ (sum8 rfl) er1 ?_
  refine g_iconst X d_CT_keyOf_8 (v := (nI 1)) rfl ?_
  refine g_ic_ne X d_CT_keyOf_9 34 (by decide) (fun q3 => ?_) (fun q3 => ?_)
  · have hf := ite_f q3 hf
    refine g_aload_n X d_CT_keyOf_34 0 rfl ?_
    refine g_iload_n X d_CT_keyOf_35 1 rfl ?_
    obtain ⟨r4, σ5, er4, hf⟩ := bd_some hf
    refine ca_CT_scoreOf X d_CT_keyOf_36 wl_CT_239 ⟨Nat.le_of_ble_eq_true rfl, Nat.le_of_ble_eq_true rfl⟩ (sum8 rfl) er4 ?_
    refine g_istore_n X d_CT_keyOf_39 rfl (lv' := [(2, .int r4), (0, .ref (Γ.2.2.1 111)), (1, .int x1)]) (Nat.le_of_ble_eq_true rfl) rfl ?_
    refine g_aload_n X d_CT_keyOf_40 1 rfl ?_
    refine gf_111_1 X d_CT_keyOf_41 wl_CT_19 ?_
    refine g_iconst X d_CT_keyOf_44 (v := (nI 2)) rfl ?_
    obtain ⟨r6, σ7, er6, hf⟩ := bd_some hf
    refine ca_ST_setting X d_CT_keyOf_45 wl_CT_172 ⟨Nat.le_of_ble_eq_true rfl, Nat.le_of_ble_eq_true rfl⟩ (sum8 rfl) er6 ?_
    refine g_if_ne X d_CT_keyOf_48 53 (by decide) (fun q8 => ?_) (fun q8 => ?_)
    · have hf := ite_f q8 hf
      refine g_bipush X d_CT_keyOf_53 (v := (nI 60)) rfl ?_
      refine g_istore_n X d_CT_keyOf_55 rfl (lv' := [(3, .int (nI 60)), (2, .int r4), (0, .ref (Γ.2.2.1 111)), (1, .int x1)]) (Nat.le_of_ble_eq_true rfl) rfl ?_
      refine g_iload_n X d_CT_keyOf_56 1 rfl ?_
      refine g_bipush X d_CT_keyOf_57 (v := (nI 13)) rfl ?_
      refine g_imul X d_CT_keyOf_59 ?_
      refine g_aload_n X d_CT_keyOf_60 2 rfl ?_
      refine gf_111_6 X d_CT_keyOf_61 wl_CT_47 ?_
      refine g_iload_n X d_CT_keyOf_64 3 rfl ?_
      obtain ⟨r9, σ10, er9, hf⟩ := bd_some hf
      refine ca_CO_firstsOf X d_CT_keyOf_65 wl_CT_233 ⟨Nat.le_of_ble_eq_true rfl, Nat.le_of_ble_eq_true rfl⟩ (sum8 rfl) er9 ?_
      refine g_iadd X d_CT_keyOf_68 ?_
      obtain ⟨v11, ev11, hf⟩ := lt_ex hf
      refine g_top ev11 ?_
      refine g_istore_n X d_CT_keyOf_69 rfl (lv' := [(2, .int v11), (3, .int (nI 60)), (0, .ref (Γ.2.2.1 111)), (1, .int x1)]) (Nat.le_of_ble_eq_true rfl) rfl ?_
      refine g_iload_n X d_CT_keyOf_70 0 rfl ?_
      refine g_iload_n X d_CT_keyOf_71 1 rfl ?_
      refine g_iconst X d_CT_keyOf_72 (v := (nI 1)) rfl ?_
      refine g_iadd X d_CT_keyOf_73 ?_
      refine g_imul X d_CT_keyOf_74 ?_
      refine g_iload_n X d_CT_keyOf_75 1 rfl ?_
      refine g_iadd X d_CT_keyOf_76 ?_
      refine g_aload_n X d_CT_keyOf_77 2 rfl ?_
      refine gf_111_7 X d_CT_keyOf_78 wl_CT_54 ?_
      refine g_iload_n X d_CT_keyOf_81 3 rfl ?_
      obtain ⟨r12, σ13, er12, hf⟩ := bd_some hf
      refine ca_RA_sumOf X d_CT_keyOf_82 wl_CT_236 ⟨Nat.le_of_ble_eq_true rfl, Nat.le_of_ble_eq_true rfl⟩ (sum8 rfl) er12 ?_
      refine g_isub X d_CT_keyOf_85 ?_
      obtain ⟨v14, ev14, hf⟩ := lt_ex hf
      refine g_top ev14 ?_
      refine g_istore_n X d_CT_keyOf_86 rfl (lv' := [(2, .int v14), (3, .int (nI 60)), (0, .ref (Γ.2.2.1 111)), (1, .int x1)]) (Nat.le_of_ble_eq_true rfl) rfl ?_
      refine g_iload_n X d_CT_keyOf_87 0 rfl ?_
      refine g_bipush X d_CT_keyOf_88 (v := (nI 20)) rfl ?_
      refine g_imul X d_CT_keyOf_90 ?_
      refine g_bipush X d_CT_keyOf_91 (v := (nI 20)) rfl ?_
      refine g_iadd X d_CT_keyOf_93 ?_
      refine g_iconst X d_CT_keyOf_94 (v := (nI 1)) rfl ?_
      refine g_isub X d_CT_keyOf_95 ?_
      refine g_iload_n X d_CT_keyOf_96 3 rfl ?_
      refine g_isub X d_CT_keyOf_97 ?_
      exact g_iret X d_CT_keyOf_98 hr hk9 hf
    · have hf := ite_t q8 hf
      refine g_iload_n X d_CT_keyOf_51 0 rfl ?_
      exact g_iret X d_CT_keyOf_52 hr hk9 hf
  · have hf := ite_t q3 hf
    refine g_aload_n X d_CT_keyOf_12 0 rfl ?_
    refine gf_111_8 X d_CT_keyOf_13 wl_CT_61 ?_
    refine g_iload_n X d_CT_keyOf_16 1 rfl ?_
    obtain ⟨r15, σ16, er15, hf⟩ := bd_some hf
    refine ca_RO_roundOf X d_CT_keyOf_17 wl_CT_248 ⟨Nat.le_of_ble_eq_true rfl, Nat.le_of_ble_eq_true rfl⟩ (sum8 rfl) er15 ?_
    refine g_istore_n X d_CT_keyOf_20 rfl (lv' := [(2, .int r15), (0, .ref (Γ.2.2.1 111)), (1, .int x1)]) (Nat.le_of_ble_eq_true rfl) rfl ?_
    refine g_iload_n X d_CT_keyOf_21 0 rfl ?_
    refine g_bipush X d_CT_keyOf_22 (v := (-5)) rfl ?_
    refine g_ic_ne X d_CT_keyOf_24 32 (by decide) (fun q17 => ?_) (fun q17 => ?_)
    · have hf := ite_f q17 hf
      refine g_iload_n X d_CT_keyOf_32 0 rfl ?_
      exact g_iret X d_CT_keyOf_33 hr hk9 hf
    · have hf := ite_t q17 hf
      refine g_bipush X d_CT_keyOf_27 (v := (nI 20)) rfl ?_
      refine g_goto X d_CT_keyOf_29 33 (by decide) ?_
      exact g_iret X d_CT_keyOf_33 hr hk9 hf
section
variable {R : Room} {kc ks : Nat} {Q : State → Prop} {nL : Nat} {cc : ByteArray} {own : String} {pc : Nat} {lv lv' : List (Nat × Value)} {st : List Value}
theorem ca_CT_keyOf {x1 : Int32} (X : Cx Γ p R s m args c cc nL own kc ks) {idx : Nat} (hd : decode cc pc = .ok (.invokevirtual idx, 3)) (hlk : Cond.methodLink own idx y_CT_keyOf ∈ lw_gt) (hR : 3 + 1 ≤ R.frames ∧ 8 + (4 + 11) + 63 ≤ R.locals) (hw : (st.map fun v => v.category).sum ≤ 8) {σ σ' : Sg} {r : Int32} (hf : f_CT_keyOf x1 σ = some (r, σ')) (k : G Γ p l e R s m args below meth c kc ks Q nL (pc + 3) lv (.int r :: st) σ') : G Γ p l e R s m args below meth c kc ks Q nL pc lv (.int x1 :: .ref (Γ.2.2.1 111) :: st) σ :=
  g_callV (As := [.int x1]) (rest := st) X hd (c_CT_keyOf' hf) co_CT_keyOf hlk wn_CT_keyOf wse_CT_keyOf (by decide) kd_111 rfl hR rfl rfl hw k
end
set_option maxRecDepth 10000 in
theorem w_OR_clearKeys_2 {r : Int32} {σ' : Sg} (X : Cx Γ p (z_rm 0 0) s m args c c_OR_clearKeys 2 "CaptionTallies$Order" 0 0) (hr : meth.sig.returnType = none) (hk9 : meth.locks = false) : ∀ (n9 : Nat) (x1 : Int32) (σ : Sg), f_OR_clearKeys_2 n9 x1 σ = some (r, σ') → G Γ p l e (z_rm 0 0) s m args below meth c 0 0 (MQ below (Qx Γ none σ') args s 0 0 (fun q : Nat => Γ.2.2.2 ≤ q)) 2 2 [(0, .ref (Γ.2.2.1 100)), (1, .int x1)] [] σ := by
  intro n9
  induction n9 with
  | zero => intro x1 σ hf; cases hf
  | succ n9 ih =>
    intro x1 σ hf
    rw [f_OR_clearKeys_2] at hf
    refine g_iload_n X d_OR_clearKeys_2 1 rfl ?_
    refine g_bipush X d_OR_clearKeys_3 (v := (nI 20)) rfl ?_
    refine g_ic_ge X d_OR_clearKeys_5 21 (by decide) (fun q1 => ?_) (fun q1 => ?_)
    · have hf := ite_t q1 hf
      exact g_vret X d_OR_clearKeys_21 hr hk9 hf
    · have hf := ite_f q1 hf
      refine g_aload_n X d_OR_clearKeys_8 0 rfl ?_
      refine gf_100_0 X d_OR_clearKeys_9 wl_OR_9 ?_
      refine g_iload_n X d_OR_clearKeys_12 1 rfl ?_
      refine g_iconst X d_OR_clearKeys_13 (v := (nI 0)) rfl ?_
      obtain ⟨b2, hf⟩ := gd_some hf
      obtain ⟨σ3, eσ3, hf⟩ := lt_ex hf
      refine g_zast X d_OR_clearKeys_14 kd_101 b2 rfl eσ3 ?_
      refine g_iinc X d_OR_clearKeys_15 (j := 1) (lv' := [(1, .int (x1 + (nI 1))), (0, .ref (Γ.2.2.1 100))]) rfl rfl (Nat.le_of_ble_eq_true rfl) rfl ?_
      refine g_goto X d_OR_clearKeys_18 2 (by decide) ?_
      refine g_sub [1, 0] rfl ?_
      exact ih _ _ hf
set_option maxRecDepth 10000 in
theorem c_OR_clearKeys' {Γ : Gm} {l : Launch} {σ σ' : Sg} {r : Int32} (hf : f_OR_clearKeys σ = some (r, σ')) : Ctr Γ l y_OR_clearKeys c_OR_clearKeys 2 none 0 0 [.ref (Γ.2.2.1 100)] σ σ' none := by
  refine Ctr.of (lv := [(0, .ref (Γ.2.2.1 100))]) (by decide +kernel) (Nat.le_of_ble_eq_true rfl) rfl ?_
  intro p e s m args below meth c X hr hk9
  have X : Cx Γ p (z_rm 0 0) s m args c c_OR_clearKeys 2 "CaptionTallies$Order" 0 0 := X
  rw [f_OR_clearKeys] at hf
  refine g_iconst X d_OR_clearKeys_0 (v := (nI 0)) rfl ?_
  refine g_istore_n X d_OR_clearKeys_1 rfl (lv' := [(1, .int (nI 0)), (0, .ref (Γ.2.2.1 100))]) (Nat.le_of_ble_eq_true rfl) rfl ?_
  refine g_sub [1, 0] rfl ?_
  exact w_OR_clearKeys_2 X hr hk9 _ _ _ hf
section
variable {R : Room} {kc ks : Nat} {Q : State → Prop} {nL : Nat} {cc : ByteArray} {own : String} {pc : Nat} {lv lv' : List (Nat × Value)} {st : List Value}
theorem ca_OR_clearKeys (X : Cx Γ p R s m args c cc nL own kc ks) {idx : Nat} (hd : decode cc pc = .ok (.invokevirtual idx, 3)) (hlk : Cond.methodLink own idx y_OR_clearKeys ∈ lw_gt) (hR : 0 + 1 ≤ R.frames ∧ 8 + (2 + 11) + 0 ≤ R.locals) (hw : (st.map fun v => v.category).sum ≤ 8) {σ σ' : Sg} {r : Int32} (hf : f_OR_clearKeys σ = some (r, σ')) (k : G Γ p l e R s m args below meth c kc ks Q nL (pc + 3) lv (st) σ') : G Γ p l e R s m args below meth c kc ks Q nL pc lv (.ref (Γ.2.2.1 100) :: st) σ :=
  g_callV (As := []) (rest := st) X hd (c_OR_clearKeys' hf) co_OR_clearKeys hlk wn_OR_clearKeys wse_OR_clearKeys (by decide) kd_100 rfl hR rfl rfl hw k
end
set_option maxRecDepth 10000 in
theorem c_OR_giveKey' {Γ : Gm} {l : Launch} {x1 : Int32} {x2 : Int32} {σ σ' : Sg} {r : Int32} (hf : f_OR_giveKey x1 x2 σ = some (r, σ')) : Ctr Γ l y_OR_giveKey c_OR_giveKey 3 none 1 21 [.ref (Γ.2.2.1 100), .int x1, .int x2] σ σ' none := by
  refine Ctr.of (lv := [(0, .ref (Γ.2.2.1 100)), (1, .int x1), (2, .int x2)]) (by decide +kernel) (Nat.le_of_ble_eq_true rfl) rfl ?_
  intro p e s m args below meth c X hr hk9
  have X : Cx Γ p (z_rm 1 21) s m args c c_OR_giveKey 3 "CaptionTallies$Order" 0 0 := X
  rw [f_OR_giveKey] at hf
  refine g_iload_n X d_OR_giveKey_0 1 rfl ?_
  refine g_bipush X d_OR_giveKey_1 (v := (nI 20)) rfl ?_
  obtain ⟨r1, σ2, er1, hf⟩ := bd_some hf
  refine can_CT_isIndex X d_OR_giveKey_3 wl_OR_25 ⟨Nat.le_of_ble_eq_true rfl, Nat.le_of_ble_eq_true rfl⟩ (sum8 rfl) er1 ?_
  refine g_if_eq X d_OR_giveKey_6 23 (by decide) (fun q3 => ?_) (fun q3 => ?_)
  · have hf := ite_t q3 hf
    exact g_vret X d_OR_giveKey_23 hr hk9 hf
  · have hf := ite_f q3 hf
    refine g_aload_n X d_OR_giveKey_9 0 rfl ?_
    refine gf_100_0 X d_OR_giveKey_10 wl_OR_9 ?_
    refine g_iload_n X d_OR_giveKey_13 1 rfl ?_
    refine g_iconst X d_OR_giveKey_14 (v := (nI 1)) rfl ?_
    obtain ⟨b4, hf⟩ := gd_some hf
    obtain ⟨σ5, eσ5, hf⟩ := lt_ex hf
    refine g_zast X d_OR_giveKey_15 kd_101 b4 rfl eσ5 ?_
    refine g_aload_n X d_OR_giveKey_16 0 rfl ?_
    refine gf_100_1 X d_OR_giveKey_17 wl_OR_15 ?_
    refine g_iload_n X d_OR_giveKey_20 1 rfl ?_
    refine g_iload_n X d_OR_giveKey_21 2 rfl ?_
    obtain ⟨b6, hf⟩ := gd_some hf
    obtain ⟨σ7, eσ7, hf⟩ := lt_ex hf
    refine g_iast X d_OR_giveKey_22 kd_102 b6 eσ7 ?_
    exact g_vret X d_OR_giveKey_23 hr hk9 hf
section
variable {R : Room} {kc ks : Nat} {Q : State → Prop} {nL : Nat} {cc : ByteArray} {own : String} {pc : Nat} {lv lv' : List (Nat × Value)} {st : List Value}
theorem ca_OR_giveKey {x1 : Int32} {x2 : Int32} (X : Cx Γ p R s m args c cc nL own kc ks) {idx : Nat} (hd : decode cc pc = .ok (.invokevirtual idx, 3)) (hlk : Cond.methodLink own idx y_OR_giveKey ∈ lw_gt) (hR : 1 + 1 ≤ R.frames ∧ 8 + (3 + 11) + 21 ≤ R.locals) (hw : (st.map fun v => v.category).sum ≤ 8) {σ σ' : Sg} {r : Int32} (hf : f_OR_giveKey x1 x2 σ = some (r, σ')) (k : G Γ p l e R s m args below meth c kc ks Q nL (pc + 3) lv (st) σ') : G Γ p l e R s m args below meth c kc ks Q nL pc lv (.int x2 :: .int x1 :: .ref (Γ.2.2.1 100) :: st) σ :=
  g_callV (As := [.int x1, .int x2]) (rest := st) X hd (c_OR_giveKey' hf) co_OR_giveKey hlk wn_OR_giveKey wse_OR_giveKey (by decide) kd_100 rfl hR rfl rfl hw k
end
set_option maxRecDepth 10000 in
theorem w_CT_fillKeys_9 {r : Int32} {σ' : Sg} (X : Cx Γ p (z_rm 4 86) s m args c c_CT_fillKeys 2 "CaptionTallies" 0 0) (hr : meth.sig.returnType = none) (hk9 : meth.locks = false) : ∀ (n9 : Nat) (x1 : Int32) (σ : Sg), f_CT_fillKeys_9 n9 x1 σ = some (r, σ') → G Γ p l e (z_rm 4 86) s m args below meth c 0 0 (MQ below (Qx Γ none σ') args s 0 0 (fun q : Nat => Γ.2.2.2 ≤ q)) 2 9 [(0, .ref (Γ.2.2.1 111)), (1, .int x1)] [] σ := by
  intro n9
  induction n9 with
  | zero => intro x1 σ hf; cases hf
  | succ n9 ih =>
    intro x1 σ hf
    rw [f_CT_fillKeys_9] at hf
    refine g_iload_n X d_CT_fillKeys_9 1 rfl ?_
    refine g_bipush X d_CT_fillKeys_10 (v := (nI 20)) rfl ?_
    refine g_ic_ge X d_CT_fillKeys_12 45 (by decide) (fun q1 => ?_) (fun q1 => ?_)
    · have hf := ite_t q1 hf
      exact g_vret X d_CT_fillKeys_45 hr hk9 hf
    · have hf := ite_f q1 hf
      refine g_aload_n X d_CT_fillKeys_15 0 rfl ?_
      refine gf_111_5 X d_CT_fillKeys_16 wl_CT_40 ?_
      refine g_iload_n X d_CT_fillKeys_19 1 rfl ?_
      obtain ⟨r2, σ3, er2, hf⟩ := bd_some hf
      refine ca_GR_isHead X d_CT_fillKeys_20 wl_CT_323 ⟨Nat.le_of_ble_eq_true rfl, Nat.le_of_ble_eq_true rfl⟩ (sum8 rfl) er2 ?_
      refine g_if_eq X d_CT_fillKeys_23 39 (by decide) (fun q4 => ?_) (fun q4 => ?_)
      · have hf := ite_t q4 hf
        refine g_iinc X d_CT_fillKeys_39 (j := 1) (lv' := [(1, .int (x1 + (nI 1))), (0, .ref (Γ.2.2.1 111))]) rfl rfl (Nat.le_of_ble_eq_true rfl) rfl ?_
        refine g_goto X d_CT_fillKeys_42 9 (by decide) ?_
        refine g_sub [1, 0] rfl ?_
        exact ih _ _ hf
      · have hf := ite_f q4 hf
        refine g_aload_n X d_CT_fillKeys_26 0 rfl ?_
        refine gf_111_9 X d_CT_fillKeys_27 wl_CT_68 ?_
        refine g_iload_n X d_CT_fillKeys_30 1 rfl ?_
        refine g_aload_n X d_CT_fillKeys_31 0 rfl ?_
        refine g_iload_n X d_CT_fillKeys_32 1 rfl ?_
        obtain ⟨r5, σ6, er5, hf⟩ := bd_some hf
        refine ca_CT_keyOf X d_CT_fillKeys_33 wl_CT_326 ⟨Nat.le_of_ble_eq_true rfl, Nat.le_of_ble_eq_true rfl⟩ (sum8 rfl) er5 ?_
        obtain ⟨r7, σ8, er7, hf⟩ := bd_some hf
        refine ca_OR_giveKey X d_CT_fillKeys_36 wl_CT_329 ⟨Nat.le_of_ble_eq_true rfl, Nat.le_of_ble_eq_true rfl⟩ (sum8 rfl) er7 ?_
        refine g_iinc X d_CT_fillKeys_39 (j := 1) (lv' := [(1, .int (x1 + (nI 1))), (0, .ref (Γ.2.2.1 111))]) rfl rfl (Nat.le_of_ble_eq_true rfl) rfl ?_
        refine g_goto X d_CT_fillKeys_42 9 (by decide) ?_
        refine g_sub [1, 0] rfl ?_
        exact ih _ _ hf
set_option maxRecDepth 10000 in
theorem c_CT_fillKeys' {Γ : Gm} {l : Launch} {σ σ' : Sg} {r : Int32} (hf : f_CT_fillKeys σ = some (r, σ')) : Ctr Γ l y_CT_fillKeys c_CT_fillKeys 2 none 4 86 [.ref (Γ.2.2.1 111)] σ σ' none := by
  refine Ctr.of (lv := [(0, .ref (Γ.2.2.1 111))]) (by decide +kernel) (Nat.le_of_ble_eq_true rfl) rfl ?_
  intro p e s m args below meth c X hr hk9
  have X : Cx Γ p (z_rm 4 86) s m args c c_CT_fillKeys 2 "CaptionTallies" 0 0 := X
  rw [f_CT_fillKeys] at hf
  refine g_aload_n X d_CT_fillKeys_0 0 rfl ?_
  refine gf_111_9 X d_CT_fillKeys_1 wl_CT_68 ?_
  obtain ⟨r1, σ2, er1, hf⟩ := bd_some hf
  refine ca_OR_clearKeys X d_CT_fillKeys_4 wl_CT_320 ⟨Nat.le_of_ble_eq_true rfl, Nat.le_of_ble_eq_true rfl⟩ (sum8 rfl) er1 ?_
  refine g_iconst X d_CT_fillKeys_7 (v := (nI 0)) rfl ?_
  refine g_istore_n X d_CT_fillKeys_8 rfl (lv' := [(1, .int (nI 0)), (0, .ref (Γ.2.2.1 111))]) (Nat.le_of_ble_eq_true rfl) rfl ?_
  refine g_sub [1, 0] rfl ?_
  exact w_CT_fillKeys_9 X hr hk9 _ _ _ hf
section
variable {R : Room} {kc ks : Nat} {Q : State → Prop} {nL : Nat} {cc : ByteArray} {own : String} {pc : Nat} {lv lv' : List (Nat × Value)} {st : List Value}
theorem ca_CT_fillKeys (X : Cx Γ p R s m args c cc nL own kc ks) {idx : Nat} (hd : decode cc pc = .ok (.invokevirtual idx, 3)) (hlk : Cond.methodLink own idx y_CT_fillKeys ∈ lw_gt) (hR : 4 + 1 ≤ R.frames ∧ 8 + (2 + 11) + 86 ≤ R.locals) (hw : (st.map fun v => v.category).sum ≤ 8) {σ σ' : Sg} {r : Int32} (hf : f_CT_fillKeys σ = some (r, σ')) (k : G Γ p l e R s m args below meth c kc ks Q nL (pc + 3) lv (st) σ') : G Γ p l e R s m args below meth c kc ks Q nL pc lv (.ref (Γ.2.2.1 111) :: st) σ :=
  g_callV (As := []) (rest := st) X hd (c_CT_fillKeys' hf) co_CT_fillKeys hlk wn_CT_fillKeys wse_CT_fillKeys (by decide) kd_111 rfl hR rfl rfl hw k
end
set_option maxRecDepth 10000 in
theorem w_OR_groupsAhead_4 {r : Int32} {σ' : Sg} (X : Cx Γ p (z_rm 1 21) s m args c c_OR_groupsAhead 4 "CaptionTallies$Order" 0 0) (hr : meth.sig.returnType = (some .int)) (hk9 : meth.locks = false) : ∀ (n9 : Nat) (x1 : Int32) (x2 : Int32) (x3 : Int32) (σ : Sg), f_OR_groupsAhead_4 n9 x1 x2 x3 σ = some (r, σ') → G Γ p l e (z_rm 1 21) s m args below meth c 0 0 (MQ below (Qx Γ (some (.int r)) σ') args s 0 0 (fun q : Nat => Γ.2.2.2 ≤ q)) 4 4 [(0, .ref (Γ.2.2.1 100)), (1, .int x1), (2, .int x2), (3, .int x3)] [] σ := by
  intro n9
  induction n9 with
  | zero => intro x1 x2 x3 σ hf; cases hf
  | succ n9 ih =>
    intro x1 x2 x3 σ hf
    rw [f_OR_groupsAhead_4] at hf
    refine g_iload_n X d_OR_groupsAhead_4 3 rfl ?_
    refine g_bipush X d_OR_groupsAhead_5 (v := (nI 20)) rfl ?_
    refine g_ic_ge X d_OR_groupsAhead_7 45 (by decide) (fun q1 => ?_) (fun q1 => ?_)
    · have hf := ite_t q1 hf
      refine g_iload_n X d_OR_groupsAhead_45 2 rfl ?_
      exact g_iret X d_OR_groupsAhead_46 hr hk9 hf
    · have hf := ite_f q1 hf
      refine g_aload_n X d_OR_groupsAhead_10 0 rfl ?_
      refine gf_100_0 X d_OR_groupsAhead_11 wl_OR_9 ?_
      refine g_iload_n X d_OR_groupsAhead_14 3 rfl ?_
      obtain ⟨b2, hf⟩ := gd_some hf
      refine g_zald X d_OR_groupsAhead_15 kd_101 b2 ?_
      refine g_if_eq X d_OR_groupsAhead_16 39 (by decide) (fun q3 => ?_) (fun q3 => ?_)
      · have hf := ite_t q3 hf
        refine g_iinc X d_OR_groupsAhead_39 (j := 3) (lv' := [(3, .int (x3 + (nI 1))), (0, .ref (Γ.2.2.1 100)), (1, .int x1), (2, .int x2)]) rfl rfl (Nat.le_of_ble_eq_true rfl) rfl ?_
        refine g_goto X d_OR_groupsAhead_42 4 (by decide) ?_
        refine g_sub [1, 2, 3, 0] rfl ?_
        exact ih _ _ _ _ hf
      · have hf := ite_f q3 hf
        refine g_aload_n X d_OR_groupsAhead_19 0 rfl ?_
        refine gf_100_1 X d_OR_groupsAhead_20 wl_OR_15 ?_
        refine g_iload_n X d_OR_groupsAhead_23 3 rfl ?_
        obtain ⟨b4, hf⟩ := gd_some hf
        refine g_iald X d_OR_groupsAhead_24 kd_102 b4 ?_
        refine g_aload_n X d_OR_groupsAhead_25 0 rfl ?_
        refine gf_100_1 X d_OR_groupsAhead_26 wl_OR_15 ?_
        refine g_iload_n X d_OR_groupsAhead_29 1 rfl ?_
        obtain ⟨r5, σ6, er5, hf⟩ := bd_some hf
        refine can_CT_at X d_OR_groupsAhead_30 wl_OR_43 ⟨Nat.le_of_ble_eq_true rfl, Nat.le_of_ble_eq_true rfl⟩ (sum8 rfl) kd_102 er5 ?_
        refine g_ic_le X d_OR_groupsAhead_33 39 (by decide) (fun q7 => ?_) (fun q7 => ?_)
        · have hf := ite_t q7 hf
          refine g_iinc X d_OR_groupsAhead_39 (j := 3) (lv' := [(3, .int (x3 + (nI 1))), (0, .ref (Γ.2.2.1 100)), (1, .int x1), (2, .int x2)]) rfl rfl (Nat.le_of_ble_eq_true rfl) rfl ?_
          refine g_goto X d_OR_groupsAhead_42 4 (by decide) ?_
          refine g_sub [1, 2, 3, 0] rfl ?_
          exact ih _ _ _ _ hf
        · have hf := ite_f q7 hf
          refine g_iinc X d_OR_groupsAhead_36 (j := 2) (lv' := [(2, .int (x2 + (nI 1))), (0, .ref (Γ.2.2.1 100)), (1, .int x1), (3, .int x3)]) rfl rfl (Nat.le_of_ble_eq_true rfl) rfl ?_
          refine g_iinc X d_OR_groupsAhead_39 (j := 3) (lv' := [(3, .int (x3 + (nI 1))), (2, .int (x2 + (nI 1))), (0, .ref (Γ.2.2.1 100)), (1, .int x1)]) rfl rfl (Nat.le_of_ble_eq_true rfl) rfl ?_
          refine g_goto X d_OR_groupsAhead_42 4 (by decide) ?_
          refine g_sub [2, 3, 1, 0] rfl ?_
          exact ih _ _ _ _ hf
set_option maxRecDepth 10000 in
theorem c_OR_groupsAhead' {Γ : Gm} {l : Launch} {x1 : Int32} {σ σ' : Sg} {r : Int32} (hf : f_OR_groupsAhead x1 σ = some (r, σ')) : Ctr Γ l y_OR_groupsAhead c_OR_groupsAhead 4 (some .int) 1 21 [.ref (Γ.2.2.1 100), .int x1] σ σ' (some (.int r)) := by
  refine Ctr.of (lv := [(0, .ref (Γ.2.2.1 100)), (1, .int x1)]) (by decide +kernel) (Nat.le_of_ble_eq_true rfl) rfl ?_
  intro p e s m args below meth c X hr hk9
  have X : Cx Γ p (z_rm 1 21) s m args c c_OR_groupsAhead 4 "CaptionTallies$Order" 0 0 := X
  rw [f_OR_groupsAhead] at hf
  refine g_iconst X d_OR_groupsAhead_0 (v := (nI 0)) rfl ?_
  refine g_istore_n X d_OR_groupsAhead_1 rfl (lv' := [(2, .int (nI 0)), (0, .ref (Γ.2.2.1 100)), (1, .int x1)]) (Nat.le_of_ble_eq_true rfl) rfl ?_
  refine g_iconst X d_OR_groupsAhead_2 (v := (nI 0)) rfl ?_
  refine g_istore_n X d_OR_groupsAhead_3 rfl (lv' := [(3, .int (nI 0)), (2, .int (nI 0)), (0, .ref (Γ.2.2.1 100)), (1, .int x1)]) (Nat.le_of_ble_eq_true rfl) rfl ?_
  refine g_sub [2, 3, 1, 0] rfl ?_
  exact w_OR_groupsAhead_4 X hr hk9 _ _ _ _ _ hf
section
variable {R : Room} {kc ks : Nat} {Q : State → Prop} {nL : Nat} {cc : ByteArray} {own : String} {pc : Nat} {lv lv' : List (Nat × Value)} {st : List Value}
theorem ca_OR_groupsAhead {x1 : Int32} (X : Cx Γ p R s m args c cc nL own kc ks) {idx : Nat} (hd : decode cc pc = .ok (.invokevirtual idx, 3)) (hlk : Cond.methodLink own idx y_OR_groupsAhead ∈ lw_gt) (hR : 1 + 1 ≤ R.frames ∧ 8 + (4 + 11) + 21 ≤ R.locals) (hw : (st.map fun v => v.category).sum ≤ 8) {σ σ' : Sg} {r : Int32} (hf : f_OR_groupsAhead x1 σ = some (r, σ')) (k : G Γ p l e R s m args below meth c kc ks Q nL (pc + 3) lv (.int r :: st) σ') : G Γ p l e R s m args below meth c kc ks Q nL pc lv (.int x1 :: .ref (Γ.2.2.1 100) :: st) σ :=
  g_callV (As := [.int x1]) (rest := st) X hd (c_OR_groupsAhead' hf) co_OR_groupsAhead hlk wn_OR_groupsAhead wse_OR_groupsAhead (by decide) kd_100 rfl hR rfl rfl hw k
end
set_option maxRecDepth 10000 in
theorem w_OR_tiedBelow_5 {r : Int32} {σ' : Sg} (X : Cx Γ p (z_rm 1 21) s m args c c_OR_tiedBelow 5 "CaptionTallies$Order" 0 0) (hr : meth.sig.returnType = (some .int)) (hk9 : meth.locks = false) : ∀ (n9 : Nat) (x1 : Int32) (x2 : Int32) (x3 : Int32) (x4 : Int32) (σ : Sg), f_OR_tiedBelow_5 n9 x1 x2 x3 x4 σ = some (r, σ') → G Γ p l e (z_rm 1 21) s m args below meth c 0 0 (MQ below (Qx Γ (some (.int r)) σ') args s 0 0 (fun q : Nat => Γ.2.2.2 ≤ q)) 5 5 [(0, .ref (Γ.2.2.1 100)), (1, .int x1), (2, .int x2), (3, .int x3), (4, .int x4)] [] σ := by
  intro n9
  induction n9 with
  | zero => intro x1 x2 x3 x4 σ hf; cases hf
  | succ n9 ih =>
    intro x1 x2 x3 x4 σ hf
    rw [f_OR_tiedBelow_5] at hf
    refine g_iload X d_OR_tiedBelow_5 4 rfl ?_
    refine g_bipush X d_OR_tiedBelow_7 (v := (nI 20)) rfl ?_
    refine g_ic_ge X d_OR_tiedBelow_9 55 (by decide) (fun q1 => ?_) (fun q1 => ?_)
    · have hf := ite_t q1 hf
      refine g_iload_n X d_OR_tiedBelow_55 3 rfl ?_
      exact g_iret X d_OR_tiedBelow_56 hr hk9 hf
    · have hf := ite_f q1 hf
      refine g_iload X d_OR_tiedBelow_12 4 rfl ?_
      refine g_iload_n X d_OR_tiedBelow_14 2 rfl ?_
      refine g_ic_ge X d_OR_tiedBelow_15 55 (by decide) (fun q2 => ?_) (fun q2 => ?_)
      · have hf := ite_t q2 hf
        refine g_iload_n X d_OR_tiedBelow_55 3 rfl ?_
        exact g_iret X d_OR_tiedBelow_56 hr hk9 hf
      · have hf := ite_f q2 hf
        refine g_aload_n X d_OR_tiedBelow_18 0 rfl ?_
        refine gf_100_0 X d_OR_tiedBelow_19 wl_OR_9 ?_
        refine g_iload X d_OR_tiedBelow_22 4 rfl ?_
        obtain ⟨b3, hf⟩ := gd_some hf
        refine g_zald X d_OR_tiedBelow_24 kd_101 b3 ?_
        refine g_if_eq X d_OR_tiedBelow_25 49 (by decide) (fun q4 => ?_) (fun q4 => ?_)
        · have hf := ite_t q4 hf
          refine g_iinc X d_OR_tiedBelow_49 (j := 4) (lv' := [(4, .int (x4 + (nI 1))), (0, .ref (Γ.2.2.1 100)), (1, .int x1), (2, .int x2), (3, .int x3)]) rfl rfl (Nat.le_of_ble_eq_true rfl) rfl ?_
          refine g_goto X d_OR_tiedBelow_52 5 (by decide) ?_
          refine g_sub [1, 2, 3, 4, 0] rfl ?_
          exact ih _ _ _ _ _ hf
        · have hf := ite_f q4 hf
          refine g_aload_n X d_OR_tiedBelow_28 0 rfl ?_
          refine gf_100_1 X d_OR_tiedBelow_29 wl_OR_15 ?_
          refine g_iload X d_OR_tiedBelow_32 4 rfl ?_
          obtain ⟨b5, hf⟩ := gd_some hf
          refine g_iald X d_OR_tiedBelow_34 kd_102 b5 ?_
          refine g_aload_n X d_OR_tiedBelow_35 0 rfl ?_
          refine gf_100_1 X d_OR_tiedBelow_36 wl_OR_15 ?_
          refine g_iload_n X d_OR_tiedBelow_39 1 rfl ?_
          obtain ⟨r6, σ7, er6, hf⟩ := bd_some hf
          refine can_CT_at X d_OR_tiedBelow_40 wl_OR_43 ⟨Nat.le_of_ble_eq_true rfl, Nat.le_of_ble_eq_true rfl⟩ (sum8 rfl) kd_102 er6 ?_
          refine g_ic_ne X d_OR_tiedBelow_43 49 (by decide) (fun q8 => ?_) (fun q8 => ?_)
          · have hf := ite_f q8 hf
            refine g_iinc X d_OR_tiedBelow_49 (j := 4) (lv' := [(4, .int (x4 + (nI 1))), (0, .ref (Γ.2.2.1 100)), (1, .int x1), (2, .int x2), (3, .int x3)]) rfl rfl (Nat.le_of_ble_eq_true rfl) rfl ?_
            refine g_goto X d_OR_tiedBelow_52 5 (by decide) ?_
            refine g_sub [1, 2, 3, 4, 0] rfl ?_
            exact ih _ _ _ _ _ hf
          · have hf := ite_t q8 hf
            refine g_iinc X d_OR_tiedBelow_46 (j := 3) (lv' := [(3, .int (x3 + (nI 1))), (0, .ref (Γ.2.2.1 100)), (1, .int x1), (2, .int x2), (4, .int x4)]) rfl rfl (Nat.le_of_ble_eq_true rfl) rfl ?_
            refine g_iinc X d_OR_tiedBelow_49 (j := 4) (lv' := [(4, .int (x4 + (nI 1))), (3, .int (x3 + (nI 1))), (0, .ref (Γ.2.2.1 100)), (1, .int x1), (2, .int x2)]) rfl rfl (Nat.le_of_ble_eq_true rfl) rfl ?_
            refine g_goto X d_OR_tiedBelow_52 5 (by decide) ?_
            refine g_sub [2, 3, 4, 1, 0] rfl ?_
            exact ih _ _ _ _ _ hf
set_option maxRecDepth 10000 in
theorem c_OR_tiedBelow' {Γ : Gm} {l : Launch} {x1 : Int32} {x2 : Int32} {σ σ' : Sg} {r : Int32} (hf : f_OR_tiedBelow x1 x2 σ = some (r, σ')) : Ctr Γ l y_OR_tiedBelow c_OR_tiedBelow 5 (some .int) 1 21 [.ref (Γ.2.2.1 100), .int x1, .int x2] σ σ' (some (.int r)) := by
  refine Ctr.of (lv := [(0, .ref (Γ.2.2.1 100)), (1, .int x1), (2, .int x2)]) (by decide +kernel) (Nat.le_of_ble_eq_true rfl) rfl ?_
  intro p e s m args below meth c X hr hk9
  have X : Cx Γ p (z_rm 1 21) s m args c c_OR_tiedBelow 5 "CaptionTallies$Order" 0 0 := X
  rw [f_OR_tiedBelow] at hf
  refine g_iconst X d_OR_tiedBelow_0 (v := (nI 0)) rfl ?_
  refine g_istore_n X d_OR_tiedBelow_1 rfl (lv' := [(3, .int (nI 0)), (0, .ref (Γ.2.2.1 100)), (1, .int x1), (2, .int x2)]) (Nat.le_of_ble_eq_true rfl) rfl ?_
  refine g_iconst X d_OR_tiedBelow_2 (v := (nI 0)) rfl ?_
  refine g_istore X d_OR_tiedBelow_3 (lv' := [(4, .int (nI 0)), (3, .int (nI 0)), (0, .ref (Γ.2.2.1 100)), (1, .int x1), (2, .int x2)]) (Nat.le_of_ble_eq_true rfl) rfl ?_
  refine g_sub [2, 3, 4, 1, 0] rfl ?_
  exact w_OR_tiedBelow_5 X hr hk9 _ _ _ _ _ _ hf
section
variable {R : Room} {kc ks : Nat} {Q : State → Prop} {nL : Nat} {cc : ByteArray} {own : String} {pc : Nat} {lv lv' : List (Nat × Value)} {st : List Value}
theorem ca_OR_tiedBelow {x1 : Int32} {x2 : Int32} (X : Cx Γ p R s m args c cc nL own kc ks) {idx : Nat} (hd : decode cc pc = .ok (.invokevirtual idx, 3)) (hlk : Cond.methodLink own idx y_OR_tiedBelow ∈ lw_gt) (hR : 1 + 1 ≤ R.frames ∧ 8 + (5 + 11) + 21 ≤ R.locals) (hw : (st.map fun v => v.category).sum ≤ 8) {σ σ' : Sg} {r : Int32} (hf : f_OR_tiedBelow x1 x2 σ = some (r, σ')) (k : G Γ p l e R s m args below meth c kc ks Q nL (pc + 3) lv (.int r :: st) σ') : G Γ p l e R s m args below meth c kc ks Q nL pc lv (.int x2 :: .int x1 :: .ref (Γ.2.2.1 100) :: st) σ :=
  g_callV (As := [.int x1, .int x2]) (rest := st) X hd (c_OR_tiedBelow' hf) co_OR_tiedBelow hlk wn_OR_tiedBelow wse_OR_tiedBelow (by decide) kd_100 rfl hR rfl rfl hw k
end
set_option maxRecDepth 10000 in
theorem w_OR_fill_20 {r : Int32} {σ' : Sg} (X : Cx Γ p (z_rm 2 45) s m args c c_OR_fill 3 "CaptionTallies$Order" 0 0) (hr : meth.sig.returnType = none) (hk9 : meth.locks = false) : ∀ (n9 : Nat) (x1 : Int32) (σ : Sg), f_OR_fill_20 n9 x1 σ = some (r, σ') → G Γ p l e (z_rm 2 45) s m args below meth c 0 0 (MQ below (Qx Γ none σ') args s 0 0 (fun q : Nat => Γ.2.2.2 ≤ q)) 3 20 [(0, .ref (Γ.2.2.1 100)), (1, .int x1)] [] σ := by
  intro n9
  induction n9 with
  | zero => intro x1 σ hf; cases hf
  | succ n9 ih =>
    intro x1 σ hf
    rw [f_OR_fill_20] at hf
    refine g_iload_n X d_OR_fill_20 1 rfl ?_
    refine g_bipush X d_OR_fill_21 (v := (nI 20)) rfl ?_
    refine g_ic_ge X d_OR_fill_23 70 (by decide) (fun q1 => ?_) (fun q1 => ?_)
    · have hf := ite_t q1 hf
      exact g_vret X d_OR_fill_70 hr hk9 hf
    · have hf := ite_f q1 hf
      refine g_aload_n X d_OR_fill_26 0 rfl ?_
      refine gf_100_0 X d_OR_fill_27 wl_OR_9 ?_
      refine g_iload_n X d_OR_fill_30 1 rfl ?_
      obtain ⟨b2, hf⟩ := gd_some hf
      refine g_zald X d_OR_fill_31 kd_101 b2 ?_
      refine g_if_eq X d_OR_fill_32 64 (by decide) (fun q3 => ?_) (fun q3 => ?_)
      · have hf := ite_t q3 hf
        refine g_iinc X d_OR_fill_64 (j := 1) (lv' := [(1, .int (x1 + (nI 1))), (0, .ref (Γ.2.2.1 100))]) rfl rfl (Nat.le_of_ble_eq_true rfl) rfl ?_
        refine g_goto X d_OR_fill_67 20 (by decide) ?_
        refine g_sub [1, 0] rfl ?_
        exact ih _ _ hf
      · have hf := ite_f q3 hf
        refine g_aload_n X d_OR_fill_35 0 rfl ?_
        refine g_iload_n X d_OR_fill_36 1 rfl ?_
        obtain ⟨r4, σ5, er4, hf⟩ := bd_some hf
        refine ca_OR_groupsAhead X d_OR_fill_37 wl_OR_35 ⟨Nat.le_of_ble_eq_true rfl, Nat.le_of_ble_eq_true rfl⟩ (sum8 rfl) er4 ?_
        refine g_istore_n X d_OR_fill_40 rfl (lv' := [(2, .int r4), (0, .ref (Γ.2.2.1 100)), (1, .int x1)]) (Nat.le_of_ble_eq_true rfl) rfl ?_
        refine g_aload_n X d_OR_fill_41 1 rfl ?_
        refine gf_100_2 X d_OR_fill_42 wl_OR_19 ?_
        refine g_iload_n X d_OR_fill_45 2 rfl ?_
        refine g_iconst X d_OR_fill_46 (v := (nI 1)) rfl ?_
        refine g_iload_n X d_OR_fill_47 0 rfl ?_
        refine g_iadd X d_OR_fill_48 ?_
        obtain ⟨b6, hf⟩ := gd_some hf
        obtain ⟨σ7, eσ7, hf⟩ := lt_ex hf
        refine g_iast X d_OR_fill_49 kd_103 b6 eσ7 ?_
        refine g_aload_n X d_OR_fill_50 1 rfl ?_
        refine gf_100_3 X d_OR_fill_51 wl_OR_22 ?_
        refine g_iload_n X d_OR_fill_54 2 rfl ?_
        refine g_iload_n X d_OR_fill_55 0 rfl ?_
        refine g_aload_n X d_OR_fill_56 1 rfl ?_
        refine g_iload_n X d_OR_fill_57 2 rfl ?_
        refine g_iload_n X d_OR_fill_58 2 rfl ?_
        obtain ⟨r8, σ9, er8, hf⟩ := bd_some hf
        refine ca_OR_tiedBelow X d_OR_fill_59 wl_OR_39 ⟨Nat.le_of_ble_eq_true rfl, Nat.le_of_ble_eq_true rfl⟩ (sum8 rfl) er8 ?_
        refine g_iadd X d_OR_fill_62 ?_
        obtain ⟨b10, hf⟩ := gd_some hf
        obtain ⟨σ11, eσ11, hf⟩ := lt_ex hf
        refine g_iast X d_OR_fill_63 kd_104 b10 eσ11 ?_
        refine g_iinc X d_OR_fill_64 (j := 2) (lv' := [(1, .int (x1 + (nI 1))), (2, .int r4), (0, .ref (Γ.2.2.1 100))]) rfl rfl (Nat.le_of_ble_eq_true rfl) rfl ?_
        refine g_goto X d_OR_fill_67 20 (by decide) ?_
        refine g_sub [2, 0] rfl ?_
        exact ih _ _ hf
set_option maxRecDepth 10000 in
theorem c_OR_fill' {Γ : Gm} {l : Launch} {σ σ' : Sg} {r : Int32} (hf : f_OR_fill σ = some (r, σ')) : Ctr Γ l y_OR_fill c_OR_fill 3 none 2 45 [.ref (Γ.2.2.1 100)] σ σ' none := by
  refine Ctr.of (lv := [(0, .ref (Γ.2.2.1 100))]) (by decide +kernel) (Nat.le_of_ble_eq_true rfl) rfl ?_
  intro p e s m args below meth c X hr hk9
  have X : Cx Γ p (z_rm 2 45) s m args c c_OR_fill 3 "CaptionTallies$Order" 0 0 := X
  rw [f_OR_fill] at hf
  refine g_aload_n X d_OR_fill_0 0 rfl ?_
  refine gf_100_2 X d_OR_fill_1 wl_OR_19 ?_
  refine g_bipush X d_OR_fill_4 (v := (-5)) rfl ?_
  obtain ⟨r1, σ2, er1, hf⟩ := bd_some hf
  refine ca_AR_fill X d_OR_fill_6 wl_OR_29 ⟨Nat.le_of_ble_eq_true rfl, Nat.le_of_ble_eq_true rfl⟩ (sum8 rfl) kd_103 er1 ?_
  refine g_aload_n X d_OR_fill_9 0 rfl ?_
  refine gf_100_3 X d_OR_fill_10 wl_OR_22 ?_
  refine g_bipush X d_OR_fill_13 (v := (-5)) rfl ?_
  obtain ⟨r3, σ4, er3, hf⟩ := bd_some hf
  refine ca_AR_fill X d_OR_fill_15 wl_OR_29 ⟨Nat.le_of_ble_eq_true rfl, Nat.le_of_ble_eq_true rfl⟩ (sum8 rfl) kd_104 er3 ?_
  refine g_iconst X d_OR_fill_18 (v := (nI 0)) rfl ?_
  refine g_istore_n X d_OR_fill_19 rfl (lv' := [(1, .int (nI 0)), (0, .ref (Γ.2.2.1 100))]) (Nat.le_of_ble_eq_true rfl) rfl ?_
  refine g_sub [1, 0] rfl ?_
  exact w_OR_fill_20 X hr hk9 _ _ _ hf
section
variable {R : Room} {kc ks : Nat} {Q : State → Prop} {nL : Nat} {cc : ByteArray} {own : String} {pc : Nat} {lv lv' : List (Nat × Value)} {st : List Value}
theorem ca_OR_fill (X : Cx Γ p R s m args c cc nL own kc ks) {idx : Nat} (hd : decode cc pc = .ok (.invokevirtual idx, 3)) (hlk : Cond.methodLink own idx y_OR_fill ∈ lw_gt) (hR : 2 + 1 ≤ R.frames ∧ 8 + (3 + 11) + 45 ≤ R.locals) (hw : (st.map fun v => v.category).sum ≤ 8) {σ σ' : Sg} {r : Int32} (hf : f_OR_fill σ = some (r, σ')) (k : G Γ p l e R s m args below meth c kc ks Q nL (pc + 3) lv (st) σ') : G Γ p l e R s m args below meth c kc ks Q nL pc lv (.ref (Γ.2.2.1 100) :: st) σ :=
  g_callV (As := []) (rest := st) X hd (c_OR_fill' hf) co_OR_fill hlk wn_OR_fill wse_OR_fill (by decide) kd_100 rfl hR rfl rfl hw k
end
set_option maxRecDepth 10000 in
theorem c_GR_number' {Γ : Gm} {l : Launch} {σ σ' : Sg} {r : Int32} (hf : f_GR_number σ = some (r, σ')) : Ctr Γ l y_GR_number c_GR_number 1 (some .int) 0 0 [.ref (Γ.2.2.1 82)] σ σ' (some (.int r)) := by
  refine Ctr.of (lv := [(0, .ref (Γ.2.2.1 82))]) (by decide +kernel) (Nat.le_of_ble_eq_true rfl) rfl ?_
  intro p e s m args below meth c X hr hk9
  have X : Cx Γ p (z_rm 0 0) s m args c c_GR_number 1 "CaptionTallies$Groups" 0 0 := X
  rw [f_GR_number] at hf
  refine g_aload_n X d_GR_number_0 0 rfl ?_
  refine gf_82_2 X d_GR_number_1 wl_GR_18 ?_
  exact g_iret X d_GR_number_4 hr hk9 hf
section
variable {R : Room} {kc ks : Nat} {Q : State → Prop} {nL : Nat} {cc : ByteArray} {own : String} {pc : Nat} {lv lv' : List (Nat × Value)} {st : List Value}
theorem ca_GR_number (X : Cx Γ p R s m args c cc nL own kc ks) {idx : Nat} (hd : decode cc pc = .ok (.invokevirtual idx, 3)) (hlk : Cond.methodLink own idx y_GR_number ∈ lw_gt) (hR : 0 + 1 ≤ R.frames ∧ 8 + (1 + 11) + 0 ≤ R.locals) (hw : (st.map fun v => v.category).sum ≤ 8) {σ σ' : Sg} {r : Int32} (hf : f_GR_number σ = some (r, σ')) (k : G Γ p l e R s m args below meth c kc ks Q nL (pc + 3) lv (.int r :: st) σ') : G Γ p l e R s m args below meth c kc ks Q nL pc lv (.ref (Γ.2.2.1 82) :: st) σ :=
  g_callV (As := []) (rest := st) X hd (c_GR_number' hf) co_GR_number hlk wn_GR_number wse_GR_number (by decide) kd_82 rfl hR rfl rfl hw k
end
set_option maxRecDepth 10000 in
theorem w_RO_ballotsFor_4 {r : Int32} {σ' : Sg} (X : Cx Γ p (z_rm 0 0) s m args c c_RO_ballotsFor 4 "CaptionTallies$Rounds" 0 0) (hr : meth.sig.returnType = (some .int)) (hk9 : meth.locks = false) : ∀ (n9 : Nat) (x1 : Int32) (x2 : Int32) (x3 : Int32) (σ : Sg), f_RO_ballotsFor_4 n9 x1 x2 x3 σ = some (r, σ') → G Γ p l e (z_rm 0 0) s m args below meth c 0 0 (MQ below (Qx Γ (some (.int r)) σ') args s 0 0 (fun q : Nat => Γ.2.2.2 ≤ q)) 4 4 [(0, .ref (Γ.2.2.1 93)), (1, .int x1), (2, .int x2), (3, .int x3)] [] σ := by
  intro n9
  induction n9 with
  | zero => intro x1 x2 x3 σ hf; cases hf
  | succ n9 ih =>
    intro x1 x2 x3 σ hf
    rw [f_RO_ballotsFor_4] at hf
    refine g_iload_n X d_RO_ballotsFor_4 3 rfl ?_
    refine g_bipush X d_RO_ballotsFor_5 (v := (nI 12)) rfl ?_
    refine g_ic_ge X d_RO_ballotsFor_7 29 (by decide) (fun q1 => ?_) (fun q1 => ?_)
    · have hf := ite_t q1 hf
      refine g_iload_n X d_RO_ballotsFor_29 2 rfl ?_
      exact g_iret X d_RO_ballotsFor_30 hr hk9 hf
    · have hf := ite_f q1 hf
      refine g_aload_n X d_RO_ballotsFor_10 0 rfl ?_
      refine gf_93_1 X d_RO_ballotsFor_11 wl_RO_15 ?_
      refine g_iload_n X d_RO_ballotsFor_14 3 rfl ?_
      obtain ⟨b2, hf⟩ := gd_some hf
      refine g_iald X d_RO_ballotsFor_15 kd_95 b2 ?_
      refine g_iload_n X d_RO_ballotsFor_16 1 rfl ?_
      refine g_ic_ne X d_RO_ballotsFor_17 23 (by decide) (fun q3 => ?_) (fun q3 => ?_)
      · have hf := ite_f q3 hf
        refine g_iinc X d_RO_ballotsFor_23 (j := 3) (lv' := [(3, .int (x3 + (nI 1))), (0, .ref (Γ.2.2.1 93)), (1, .int x1), (2, .int x2)]) rfl rfl (Nat.le_of_ble_eq_true rfl) rfl ?_
        refine g_goto X d_RO_ballotsFor_26 4 (by decide) ?_
        refine g_sub [1, 2, 3, 0] rfl ?_
        exact ih _ _ _ _ hf
      · have hf := ite_t q3 hf
        refine g_iinc X d_RO_ballotsFor_20 (j := 2) (lv' := [(2, .int (x2 + (nI 1))), (0, .ref (Γ.2.2.1 93)), (1, .int x1), (3, .int x3)]) rfl rfl (Nat.le_of_ble_eq_true rfl) rfl ?_
        refine g_iinc X d_RO_ballotsFor_23 (j := 3) (lv' := [(3, .int (x3 + (nI 1))), (2, .int (x2 + (nI 1))), (0, .ref (Γ.2.2.1 93)), (1, .int x1)]) rfl rfl (Nat.le_of_ble_eq_true rfl) rfl ?_
        refine g_goto X d_RO_ballotsFor_26 4 (by decide) ?_
        refine g_sub [2, 3, 1, 0] rfl ?_
        exact ih _ _ _ _ hf
set_option maxRecDepth 10000 in
theorem c_RO_ballotsFor' {Γ : Gm} {l : Launch} {x1 : Int32} {σ σ' : Sg} {r : Int32} (hf : f_RO_ballotsFor x1 σ = some (r, σ')) : Ctr Γ l y_RO_ballotsFor c_RO_ballotsFor 4 (some .int) 0 0 [.ref (Γ.2.2.1 93), .int x1] σ σ' (some (.int r)) := by
  refine Ctr.of (lv := [(0, .ref (Γ.2.2.1 93)), (1, .int x1)]) (by decide +kernel) (Nat.le_of_ble_eq_true rfl) rfl ?_
  intro p e s m args below meth c X hr hk9
  have X : Cx Γ p (z_rm 0 0) s m args c c_RO_ballotsFor 4 "CaptionTallies$Rounds" 0 0 := X
  rw [f_RO_ballotsFor] at hf
  refine g_iconst X d_RO_ballotsFor_0 (v := (nI 0)) rfl ?_
  refine g_istore_n X d_RO_ballotsFor_1 rfl (lv' := [(2, .int (nI 0)), (0, .ref (Γ.2.2.1 93)), (1, .int x1)]) (Nat.le_of_ble_eq_true rfl) rfl ?_
  refine g_iconst X d_RO_ballotsFor_2 (v := (nI 0)) rfl ?_
  refine g_istore_n X d_RO_ballotsFor_3 rfl (lv' := [(3, .int (nI 0)), (2, .int (nI 0)), (0, .ref (Γ.2.2.1 93)), (1, .int x1)]) (Nat.le_of_ble_eq_true rfl) rfl ?_
  refine g_sub [2, 3, 1, 0] rfl ?_
  exact w_RO_ballotsFor_4 X hr hk9 _ _ _ _ _ hf
section
variable {R : Room} {kc ks : Nat} {Q : State → Prop} {nL : Nat} {cc : ByteArray} {own : String} {pc : Nat} {lv lv' : List (Nat × Value)} {st : List Value}
theorem ca_RO_ballotsFor {x1 : Int32} (X : Cx Γ p R s m args c cc nL own kc ks) {idx : Nat} (hd : decode cc pc = .ok (.invokevirtual idx, 3)) (hlk : Cond.methodLink own idx y_RO_ballotsFor ∈ lw_gt) (hR : 0 + 1 ≤ R.frames ∧ 8 + (4 + 11) + 0 ≤ R.locals) (hw : (st.map fun v => v.category).sum ≤ 8) {σ σ' : Sg} {r : Int32} (hf : f_RO_ballotsFor x1 σ = some (r, σ')) (k : G Γ p l e R s m args below meth c kc ks Q nL (pc + 3) lv (.int r :: st) σ') : G Γ p l e R s m args below meth c kc ks Q nL pc lv (.int x1 :: .ref (Γ.2.2.1 93) :: st) σ :=
  g_callV (As := [.int x1]) (rest := st) X hd (c_RO_ballotsFor' hf) co_RO_ballotsFor hlk wn_RO_ballotsFor wse_RO_ballotsFor (by decide) kd_93 rfl hR rfl rfl hw k
end
set_option maxRecDepth 10000 in
theorem w_RO_beginWith_11 {r : Int32} {σ' : Sg} (X : Cx Γ p (z_rm 2 42) s m args c c_RO_beginWith 3 "CaptionTallies$Rounds" 0 0) (hr : meth.sig.returnType = none) (hk9 : meth.locks = false) : ∀ (n9 : Nat) (x2 : Int32) (σ : Sg), f_RO_beginWith_11 n9 x2 σ = some (r, σ') → G Γ p l e (z_rm 2 42) s m args below meth c 0 0 (MQ below (Qx Γ none σ') args s 0 0 (fun q : Nat => Γ.2.2.2 ≤ q)) 3 11 [(0, .ref (Γ.2.2.1 93)), (1, .ref (Γ.2.2.1 82)), (2, .int x2)] [] σ := by
  intro n9
  induction n9 with
  | zero => intro x2 σ hf; cases hf
  | succ n9 ih =>
    intro x2 σ hf
    rw [f_RO_beginWith_11] at hf
    refine g_iload_n X d_RO_beginWith_11 2 rfl ?_
    refine g_bipush X d_RO_beginWith_12 (v := (nI 20)) rfl ?_
    refine g_ic_ge X d_RO_beginWith_14 34 (by decide) (fun q1 => ?_) (fun q1 => ?_)
    · have hf := ite_t q1 hf
      exact g_vret X d_RO_beginWith_34 hr hk9 hf
    · have hf := ite_f q1 hf
      refine g_aload_n X d_RO_beginWith_17 0 rfl ?_
      refine gf_93_0 X d_RO_beginWith_18 wl_RO_9 ?_
      refine g_iload_n X d_RO_beginWith_21 2 rfl ?_
      refine g_aload_n X d_RO_beginWith_22 1 rfl ?_
      refine g_iload_n X d_RO_beginWith_23 2 rfl ?_
      obtain ⟨r2, σ3, er2, hf⟩ := bd_some hf
      refine ca_GR_isHead X d_RO_beginWith_24 wl_RO_79 ⟨Nat.le_of_ble_eq_true rfl, Nat.le_of_ble_eq_true rfl⟩ (sum8 rfl) er2 ?_
      obtain ⟨b4, hf⟩ := gd_some hf
      obtain ⟨b5, hf⟩ := gd_some hf
      obtain ⟨σ6, eσ6, hf⟩ := lt_ex hf
      refine g_zast X d_RO_beginWith_27 kd_94 b4 b5 eσ6 ?_
      refine g_iinc X d_RO_beginWith_28 (j := 2) (lv' := [(2, .int (x2 + (nI 1))), (0, .ref (Γ.2.2.1 93)), (1, .ref (Γ.2.2.1 82))]) rfl rfl (Nat.le_of_ble_eq_true rfl) rfl ?_
      refine g_goto X d_RO_beginWith_31 11 (by decide) ?_
      refine g_sub [1, 2, 0] rfl ?_
      exact ih _ _ hf
set_option maxRecDepth 10000 in
theorem c_RO_beginWith' {Γ : Gm} {l : Launch} {σ σ' : Sg} {r : Int32} (hf : f_RO_beginWith σ = some (r, σ')) : Ctr Γ l y_RO_beginWith c_RO_beginWith 3 none 2 42 [.ref (Γ.2.2.1 93), .ref (Γ.2.2.1 82)] σ σ' none := by
  refine Ctr.of (lv := [(0, .ref (Γ.2.2.1 93)), (1, .ref (Γ.2.2.1 82))]) (by decide +kernel) (Nat.le_of_ble_eq_true rfl) rfl ?_
  intro p e s m args below meth c X hr hk9
  have X : Cx Γ p (z_rm 2 42) s m args c c_RO_beginWith 3 "CaptionTallies$Rounds" 0 0 := X
  rw [f_RO_beginWith] at hf
  refine g_aload_n X d_RO_beginWith_0 0 rfl ?_
  refine gf_93_2 X d_RO_beginWith_1 wl_RO_19 ?_
  refine g_bipush X d_RO_beginWith_4 (v := (-5)) rfl ?_
  obtain ⟨r1, σ2, er1, hf⟩ := bd_some hf
  refine ca_AR_fill X d_RO_beginWith_6 wl_RO_73 ⟨Nat.le_of_ble_eq_true rfl, Nat.le_of_ble_eq_true rfl⟩ (sum8 rfl) kd_96 er1 ?_
  refine g_iconst X d_RO_beginWith_9 (v := (nI 0)) rfl ?_
  refine g_istore_n X d_RO_beginWith_10 rfl (lv' := [(2, .int (nI 0)), (0, .ref (Γ.2.2.1 93)), (1, .ref (Γ.2.2.1 82))]) (Nat.le_of_ble_eq_true rfl) rfl ?_
  refine g_sub [1, 2, 0] rfl ?_
  exact w_RO_beginWith_11 X hr hk9 _ _ _ hf
section
variable {R : Room} {kc ks : Nat} {Q : State → Prop} {nL : Nat} {cc : ByteArray} {own : String} {pc : Nat} {lv lv' : List (Nat × Value)} {st : List Value}
theorem ca_RO_beginWith (X : Cx Γ p R s m args c cc nL own kc ks) {idx : Nat} (hd : decode cc pc = .ok (.invokevirtual idx, 3)) (hlk : Cond.methodLink own idx y_RO_beginWith ∈ lw_gt) (hR : 2 + 1 ≤ R.frames ∧ 8 + (3 + 11) + 42 ≤ R.locals) (hw : (st.map fun v => v.category).sum ≤ 8) {σ σ' : Sg} {r : Int32} (hf : f_RO_beginWith σ = some (r, σ')) (k : G Γ p l e R s m args below meth c kc ks Q nL (pc + 3) lv (st) σ') : G Γ p l e R s m args below meth c kc ks Q nL pc lv (.ref (Γ.2.2.1 82) :: .ref (Γ.2.2.1 93) :: st) σ :=
  g_callV (As := [.ref (Γ.2.2.1 82)]) (rest := st) X hd (c_RO_beginWith' hf) co_RO_beginWith hlk wn_RO_beginWith wse_RO_beginWith (by decide) kd_93 rfl hR rfl rfl hw k
end
set_option maxRecDepth 10000 in
theorem w_RO_firstLeft_3 {r : Int32} {σ' : Sg} (X : Cx Γ p (z_rm 2 43) s m args c c_RO_firstLeft 6 "CaptionTallies$Rounds" 0 0) (hr : meth.sig.returnType = (some .int)) (hk9 : meth.locks = false) : ∀ (n9 : Nat) (x3 : Int32) (x4 : Int32) (σ : Sg), f_RO_firstLeft_3 n9 x3 x4 σ = some (r, σ') → G Γ p l e (z_rm 2 43) s m args below meth c 0 0 (MQ below (Qx Γ (some (.int r)) σ') args s 0 0 (fun q : Nat => Γ.2.2.2 ≤ q)) 6 3 [(0, .ref (Γ.2.2.1 93)), (1, .ref (Γ.2.2.1 0)), (2, .ref (Γ.2.2.1 82)), (3, .int x3), (4, .int x4)] [] σ := by
  intro n9
  induction n9 with
  | zero => intro x3 x4 σ hf; cases hf
  | succ n9 ih =>
    intro x3 x4 σ hf
    rw [f_RO_firstLeft_3] at hf
    refine g_iload X d_RO_firstLeft_3 4 rfl ?_
    refine g_iconst X d_RO_firstLeft_5 (v := (nI 3)) rfl ?_
    refine g_ic_ge X d_RO_firstLeft_6 51 (by decide) (fun q1 => ?_) (fun q1 => ?_)
    · have hf := ite_t q1 hf
      refine g_bipush X d_RO_firstLeft_51 (v := (-5)) rfl ?_
      exact g_iret X d_RO_firstLeft_53 hr hk9 hf
    · have hf := ite_f q1 hf
      refine g_aload_n X d_RO_firstLeft_9 2 rfl ?_
      refine g_aload_n X d_RO_firstLeft_10 1 rfl ?_
      refine g_iload_n X d_RO_firstLeft_11 3 rfl ?_
      refine g_iload X d_RO_firstLeft_12 4 rfl ?_
      obtain ⟨r2, σ3, er2, hf⟩ := bd_some hf
      refine ca_ST_wish X d_RO_firstLeft_14 wl_RO_91 ⟨Nat.le_of_ble_eq_true rfl, Nat.le_of_ble_eq_true rfl⟩ (sum8 rfl) er2 ?_
      obtain ⟨r4, σ5, er4, hf⟩ := bd_some hf
      refine ca_GR_headOf X d_RO_firstLeft_17 wl_RO_96 ⟨Nat.le_of_ble_eq_true rfl, Nat.le_of_ble_eq_true rfl⟩ (sum8 rfl) er4 ?_
      refine g_istore X d_RO_firstLeft_20 (lv' := [(5, .int r4), (0, .ref (Γ.2.2.1 93)), (1, .ref (Γ.2.2.1 0)), (2, .ref (Γ.2.2.1 82)), (3, .int x3), (4, .int x4)]) (Nat.le_of_ble_eq_true rfl) rfl ?_
      refine g_iload X d_RO_firstLeft_22 0 rfl ?_
      refine g_bipush X d_RO_firstLeft_24 (v := (nI 20)) rfl ?_
      obtain ⟨r6, σ7, er6, hf⟩ := bd_some hf
      refine can_CT_isIndex X d_RO_firstLeft_26 wl_RO_83 ⟨Nat.le_of_ble_eq_true rfl, Nat.le_of_ble_eq_true rfl⟩ (sum8 rfl) er6 ?_
      refine g_if_eq X d_RO_firstLeft_29 45 (by decide) (fun q8 => ?_) (fun q8 => ?_)
      · have hf := ite_t q8 hf
        refine g_iinc X d_RO_firstLeft_45 (j := 5) (lv' := [(4, .int (x4 + (nI 1))), (5, .int r4), (0, .ref (Γ.2.2.1 93)), (1, .ref (Γ.2.2.1 0)), (2, .ref (Γ.2.2.1 82)), (3, .int x3)]) rfl rfl (Nat.le_of_ble_eq_true rfl) rfl ?_
        refine g_goto X d_RO_firstLeft_48 3 (by decide) ?_
        refine g_sub [2, 3, 4, 5, 0] rfl ?_
        exact ih _ _ _ hf
      · have hf := ite_f q8 hf
        refine g_aload_n X d_RO_firstLeft_32 1 rfl ?_
        refine gf_93_0 X d_RO_firstLeft_33 wl_RO_9 ?_
        refine g_iload X d_RO_firstLeft_36 0 rfl ?_
        obtain ⟨b9, hf⟩ := gd_some hf
        refine g_zald X d_RO_firstLeft_38 kd_94 b9 ?_
        refine g_if_eq X d_RO_firstLeft_39 45 (by decide) (fun q10 => ?_) (fun q10 => ?_)
        · have hf := ite_t q10 hf
          refine g_iinc X d_RO_firstLeft_45 (j := 5) (lv' := [(4, .int (x4 + (nI 1))), (5, .int r4), (0, .ref (Γ.2.2.1 93)), (1, .ref (Γ.2.2.1 0)), (2, .ref (Γ.2.2.1 82)), (3, .int x3)]) rfl rfl (Nat.le_of_ble_eq_true rfl) rfl ?_
          refine g_goto X d_RO_firstLeft_48 3 (by decide) ?_
          refine g_sub [2, 3, 4, 5, 0] rfl ?_
          exact ih _ _ _ hf
        · have hf := ite_f q10 hf
          refine g_iload X d_RO_firstLeft_42 0 rfl ?_
          exact g_iret X d_RO_firstLeft_44 hr hk9 hf
set_option maxRecDepth 10000 in
theorem c_RO_firstLeft' {Γ : Gm} {l : Launch} {x3 : Int32} {σ σ' : Sg} {r : Int32} (hf : f_RO_firstLeft x3 σ = some (r, σ')) : Ctr Γ l y_RO_firstLeft c_RO_firstLeft 6 (some .int) 2 43 [.ref (Γ.2.2.1 93), .ref (Γ.2.2.1 0), .ref (Γ.2.2.1 82), .int x3] σ σ' (some (.int r)) := by
  refine Ctr.of (lv := [(0, .ref (Γ.2.2.1 93)), (1, .ref (Γ.2.2.1 0)), (2, .ref (Γ.2.2.1 82)), (3, .int x3)]) (by decide +kernel) (Nat.le_of_ble_eq_true rfl) rfl ?_
  intro p e s m args below meth c X hr hk9
  have X : Cx Γ p (z_rm 2 43) s m args c c_RO_firstLeft 6 "CaptionTallies$Rounds" 0 0 := X
  rw [f_RO_firstLeft] at hf
  refine g_iconst X d_RO_firstLeft_0 (v := (nI 0)) rfl ?_
  refine g_istore X d_RO_firstLeft_1 (lv' := [(4, .int (nI 0)), (0, .ref (Γ.2.2.1 93)), (1, .ref (Γ.2.2.1 0)), (2, .ref (Γ.2.2.1 82)), (3, .int x3)]) (Nat.le_of_ble_eq_true rfl) rfl ?_
  refine g_sub [1, 2, 3, 4, 0] rfl ?_
  exact w_RO_firstLeft_3 X hr hk9 _ _ _ _ hf
section
variable {R : Room} {kc ks : Nat} {Q : State → Prop} {nL : Nat} {cc : ByteArray} {own : String} {pc : Nat} {lv lv' : List (Nat × Value)} {st : List Value}
theorem ca_RO_firstLeft {x3 : Int32} (X : Cx Γ p R s m args c cc nL own kc ks) {idx : Nat} (hd : decode cc pc = .ok (.invokevirtual idx, 3)) (hlk : Cond.methodLink own idx y_RO_firstLeft ∈ lw_gt) (hR : 2 + 1 ≤ R.frames ∧ 8 + (6 + 11) + 43 ≤ R.locals) (hw : (st.map fun v => v.category).sum ≤ 8) {σ σ' : Sg} {r : Int32} (hf : f_RO_firstLeft x3 σ = some (r, σ')) (k : G Γ p l e R s m args below meth c kc ks Q nL (pc + 3) lv (.int r :: st) σ') : G Γ p l e R s m args below meth c kc ks Q nL pc lv (.int x3 :: .ref (Γ.2.2.1 82) :: .ref (Γ.2.2.1 0) :: .ref (Γ.2.2.1 93) :: st) σ :=
  g_callV (As := [.ref (Γ.2.2.1 0), .ref (Γ.2.2.1 82), .int x3]) (rest := st) X hd (c_RO_firstLeft' hf) co_RO_firstLeft hlk wn_RO_firstLeft wse_RO_firstLeft (by decide) kd_93 rfl hR rfl rfl hw k
end
set_option maxRecDepth 10000 in
theorem w_RO_choose_2 {r : Int32} {σ' : Sg} (X : Cx Γ p (z_rm 3 68) s m args c c_RO_choose 4 "CaptionTallies$Rounds" 0 0) (hr : meth.sig.returnType = none) (hk9 : meth.locks = false) : ∀ (n9 : Nat) (x3 : Int32) (σ : Sg), f_RO_choose_2 n9 x3 σ = some (r, σ') → G Γ p l e (z_rm 3 68) s m args below meth c 0 0 (MQ below (Qx Γ none σ') args s 0 0 (fun q : Nat => Γ.2.2.2 ≤ q)) 4 2 [(0, .ref (Γ.2.2.1 93)), (1, .ref (Γ.2.2.1 0)), (2, .ref (Γ.2.2.1 82)), (3, .int x3)] [] σ := by
  intro n9
  induction n9 with
  | zero => intro x3 σ hf; cases hf
  | succ n9 ih =>
    intro x3 σ hf
    rw [f_RO_choose_2] at hf
    refine g_iload_n X d_RO_choose_2 3 rfl ?_
    refine g_bipush X d_RO_choose_3 (v := (nI 12)) rfl ?_
    refine g_ic_ge X d_RO_choose_5 27 (by decide) (fun q1 => ?_) (fun q1 => ?_)
    · have hf := ite_t q1 hf
      exact g_vret X d_RO_choose_27 hr hk9 hf
    · have hf := ite_f q1 hf
      refine g_aload_n X d_RO_choose_8 0 rfl ?_
      refine gf_93_1 X d_RO_choose_9 wl_RO_15 ?_
      refine g_iload_n X d_RO_choose_12 3 rfl ?_
      refine g_aload_n X d_RO_choose_13 0 rfl ?_
      refine g_aload_n X d_RO_choose_14 1 rfl ?_
      refine g_aload_n X d_RO_choose_15 2 rfl ?_
      refine g_iload_n X d_RO_choose_16 3 rfl ?_
      obtain ⟨r2, σ3, er2, hf⟩ := bd_some hf
      refine ca_RO_firstLeft X d_RO_choose_17 wl_RO_87 ⟨Nat.le_of_ble_eq_true rfl, Nat.le_of_ble_eq_true rfl⟩ (sum8 rfl) er2 ?_
      obtain ⟨b4, hf⟩ := gd_some hf
      obtain ⟨σ5, eσ5, hf⟩ := lt_ex hf
      refine g_iast X d_RO_choose_20 kd_95 b4 eσ5 ?_
      refine g_iinc X d_RO_choose_21 (j := 3) (lv' := [(3, .int (x3 + (nI 1))), (0, .ref (Γ.2.2.1 93)), (1, .ref (Γ.2.2.1 0)), (2, .ref (Γ.2.2.1 82))]) rfl rfl (Nat.le_of_ble_eq_true rfl) rfl ?_
      refine g_goto X d_RO_choose_24 2 (by decide) ?_
      refine g_sub [1, 2, 3, 0] rfl ?_
      exact ih _ _ hf
set_option maxRecDepth 10000 in
theorem c_RO_choose' {Γ : Gm} {l : Launch} {σ σ' : Sg} {r : Int32} (hf : f_RO_choose σ = some (r, σ')) : Ctr Γ l y_RO_choose c_RO_choose 4 none 3 68 [.ref (Γ.2.2.1 93), .ref (Γ.2.2.1 0), .ref (Γ.2.2.1 82)] σ σ' none := by
  refine Ctr.of (lv := [(0, .ref (Γ.2.2.1 93)), (1, .ref (Γ.2.2.1 0)), (2, .ref (Γ.2.2.1 82))]) (by decide +kernel) (Nat.le_of_ble_eq_true rfl) rfl ?_
  intro p e s m args below meth c X hr hk9
  have X : Cx Γ p (z_rm 3 68) s m args c c_RO_choose 4 "CaptionTallies$Rounds" 0 0 := X
  rw [f_RO_choose] at hf
  refine g_iconst X d_RO_choose_0 (v := (nI 0)) rfl ?_
  refine g_istore_n X d_RO_choose_1 rfl (lv' := [(3, .int (nI 0)), (0, .ref (Γ.2.2.1 93)), (1, .ref (Γ.2.2.1 0)), (2, .ref (Γ.2.2.1 82))]) (Nat.le_of_ble_eq_true rfl) rfl ?_
  refine g_sub [1, 2, 3, 0] rfl ?_
  exact w_RO_choose_2 X hr hk9 _ _ _ hf
section
variable {R : Room} {kc ks : Nat} {Q : State → Prop} {nL : Nat} {cc : ByteArray} {own : String} {pc : Nat} {lv lv' : List (Nat × Value)} {st : List Value}
theorem ca_RO_choose (X : Cx Γ p R s m args c cc nL own kc ks) {idx : Nat} (hd : decode cc pc = .ok (.invokevirtual idx, 3)) (hlk : Cond.methodLink own idx y_RO_choose ∈ lw_gt) (hR : 3 + 1 ≤ R.frames ∧ 8 + (4 + 11) + 68 ≤ R.locals) (hw : (st.map fun v => v.category).sum ≤ 8) {σ σ' : Sg} {r : Int32} (hf : f_RO_choose σ = some (r, σ')) (k : G Γ p l e R s m args below meth c kc ks Q nL (pc + 3) lv (st) σ') : G Γ p l e R s m args below meth c kc ks Q nL pc lv (.ref (Γ.2.2.1 82) :: .ref (Γ.2.2.1 0) :: .ref (Γ.2.2.1 93) :: st) σ :=
  g_callV (As := [.ref (Γ.2.2.1 0), .ref (Γ.2.2.1 82)]) (rest := st) X hd (c_RO_choose' hf) co_RO_choose hlk wn_RO_choose wse_RO_choose (by decide) kd_93 rfl hR rfl rfl hw k
end
set_option maxRecDepth 10000 in
theorem c_RO_leaveOut' {Γ : Gm} {l : Launch} {x1 : Int32} {x2 : Int32} {σ σ' : Sg} {r : Int32} (hf : f_RO_leaveOut x1 x2 σ = some (r, σ')) : Ctr Γ l y_RO_leaveOut c_RO_leaveOut 3 none 1 21 [.ref (Γ.2.2.1 93), .int x1, .int x2] σ σ' none := by
  refine Ctr.of (lv := [(0, .ref (Γ.2.2.1 93)), (1, .int x1), (2, .int x2)]) (by decide +kernel) (Nat.le_of_ble_eq_true rfl) rfl ?_
  intro p e s m args below meth c X hr hk9
  have X : Cx Γ p (z_rm 1 21) s m args c c_RO_leaveOut 3 "CaptionTallies$Rounds" 0 0 := X
  rw [f_RO_leaveOut] at hf
  refine g_iload_n X d_RO_leaveOut_0 1 rfl ?_
  refine g_bipush X d_RO_leaveOut_1 (v := (nI 20)) rfl ?_
  obtain ⟨r1, σ2, er1, hf⟩ := bd_some hf
  refine can_CT_isIndex X d_RO_leaveOut_3 wl_RO_83 ⟨Nat.le_of_ble_eq_true rfl, Nat.le_of_ble_eq_true rfl⟩ (sum8 rfl) er1 ?_
  refine g_if_eq X d_RO_leaveOut_6 23 (by decide) (fun q3 => ?_) (fun q3 => ?_)
  · have hf := ite_t q3 hf
    exact g_vret X d_RO_leaveOut_23 hr hk9 hf
  · have hf := ite_f q3 hf
    refine g_aload_n X d_RO_leaveOut_9 0 rfl ?_
    refine gf_93_0 X d_RO_leaveOut_10 wl_RO_9 ?_
    refine g_iload_n X d_RO_leaveOut_13 1 rfl ?_
    refine g_iconst X d_RO_leaveOut_14 (v := (nI 0)) rfl ?_
    obtain ⟨b4, hf⟩ := gd_some hf
    obtain ⟨σ5, eσ5, hf⟩ := lt_ex hf
    refine g_zast X d_RO_leaveOut_15 kd_94 b4 rfl eσ5 ?_
    refine g_aload_n X d_RO_leaveOut_16 0 rfl ?_
    refine gf_93_2 X d_RO_leaveOut_17 wl_RO_19 ?_
    refine g_iload_n X d_RO_leaveOut_20 1 rfl ?_
    refine g_iload_n X d_RO_leaveOut_21 2 rfl ?_
    obtain ⟨b6, hf⟩ := gd_some hf
    obtain ⟨σ7, eσ7, hf⟩ := lt_ex hf
    refine g_iast X d_RO_leaveOut_22 kd_96 b6 eσ7 ?_
    exact g_vret X d_RO_leaveOut_23 hr hk9 hf
section
variable {R : Room} {kc ks : Nat} {Q : State → Prop} {nL : Nat} {cc : ByteArray} {own : String} {pc : Nat} {lv lv' : List (Nat × Value)} {st : List Value}
theorem ca_RO_leaveOut {x1 : Int32} {x2 : Int32} (X : Cx Γ p R s m args c cc nL own kc ks) {idx : Nat} (hd : decode cc pc = .ok (.invokevirtual idx, 3)) (hlk : Cond.methodLink own idx y_RO_leaveOut ∈ lw_gt) (hR : 1 + 1 ≤ R.frames ∧ 8 + (3 + 11) + 21 ≤ R.locals) (hw : (st.map fun v => v.category).sum ≤ 8) {σ σ' : Sg} {r : Int32} (hf : f_RO_leaveOut x1 x2 σ = some (r, σ')) (k : G Γ p l e R s m args below meth c kc ks Q nL (pc + 3) lv (st) σ') : G Γ p l e R s m args below meth c kc ks Q nL pc lv (.int x2 :: .int x1 :: .ref (Γ.2.2.1 93) :: st) σ :=
  g_callV (As := [.int x1, .int x2]) (rest := st) X hd (c_RO_leaveOut' hf) co_RO_leaveOut hlk wn_RO_leaveOut wse_RO_leaveOut (by decide) kd_93 rfl hR rfl rfl hw k
end
set_option maxRecDepth 10000 in
theorem c_RO_isWeaker' {Γ : Gm} {l : Launch} {x2 : Int32} {x3 : Int32} {σ σ' : Sg} {r : Int32} (hf : f_RO_isWeaker x2 x3 σ = some (r, σ')) : Ctr Γ l y_RO_isWeaker c_RO_isWeaker 4 (some .boolean) 2 42 [.ref (Γ.2.2.1 93), .ref (Γ.2.2.1 89), .int x2, .int x3] σ σ' (some (.int r)) := by
  refine Ctr.of (lv := [(0, .ref (Γ.2.2.1 93)), (1, .ref (Γ.2.2.1 89)), (2, .int x2), (3, .int x3)]) (by decide +kernel) (Nat.le_of_ble_eq_true rfl) rfl ?_
  intro p e s m args below meth c X hr hk9
  have X : Cx Γ p (z_rm 2 42) s m args c c_RO_isWeaker 4 "CaptionTallies$Rounds" 0 0 := X
  rw [f_RO_isWeaker] at hf
  refine g_aload_n X d_RO_isWeaker_0 0 rfl ?_
  refine g_iload_n X d_RO_isWeaker_1 2 rfl ?_
  obtain ⟨r1, σ2, er1, hf⟩ := bd_some hf
  refine ca_RO_ballotsFor X d_RO_isWeaker_2 wl_RO_65 ⟨Nat.le_of_ble_eq_true rfl, Nat.le_of_ble_eq_true rfl⟩ (sum8 rfl) er1 ?_
  refine g_aload_n X d_RO_isWeaker_5 0 rfl ?_
  refine g_iload_n X d_RO_isWeaker_6 3 rfl ?_
  obtain ⟨r3, σ4, er3, hf⟩ := bd_some hf
  refine ca_RO_ballotsFor X d_RO_isWeaker_7 wl_RO_65 ⟨Nat.le_of_ble_eq_true rfl, Nat.le_of_ble_eq_true rfl⟩ (sum8 rfl) er3 ?_
  refine g_ic_eq X d_RO_isWeaker_10 32 (by decide) (fun q5 => ?_) (fun q5 => ?_)
  · have hf := ite_t q5 hf
    refine g_aload_n X d_RO_isWeaker_32 1 rfl ?_
    refine g_iload_n X d_RO_isWeaker_33 2 rfl ?_
    obtain ⟨r6, σ7, er6, hf⟩ := bd_some hf
    refine ca_RA_sumOf X d_RO_isWeaker_34 wl_RO_103 ⟨Nat.le_of_ble_eq_true rfl, Nat.le_of_ble_eq_true rfl⟩ (sum8 rfl) er6 ?_
    refine g_aload_n X d_RO_isWeaker_37 1 rfl ?_
    refine g_iload_n X d_RO_isWeaker_38 3 rfl ?_
    obtain ⟨r8, σ9, er8, hf⟩ := bd_some hf
    refine ca_RA_sumOf X d_RO_isWeaker_39 wl_RO_103 ⟨Nat.le_of_ble_eq_true rfl, Nat.le_of_ble_eq_true rfl⟩ (sum8 rfl) er8 ?_
    refine g_ic_eq X d_RO_isWeaker_42 64 (by decide) (fun q10 => ?_) (fun q10 => ?_)
    · have hf := ite_t q10 hf
      refine g_iload_n X d_RO_isWeaker_64 2 rfl ?_
      refine g_iload_n X d_RO_isWeaker_65 3 rfl ?_
      refine g_ic_le X d_RO_isWeaker_66 73 (by decide) (fun q11 => ?_) (fun q11 => ?_)
      · have hf := ite_t q11 hf
        refine g_iconst X d_RO_isWeaker_73 (v := (nI 0)) rfl ?_
        exact g_zret X d_RO_isWeaker_74 hr hk9 rfl hf
      · have hf := ite_f q11 hf
        refine g_iconst X d_RO_isWeaker_69 (v := (nI 1)) rfl ?_
        refine g_goto X d_RO_isWeaker_70 74 (by decide) ?_
        exact g_zret X d_RO_isWeaker_74 hr hk9 rfl hf
    · have hf := ite_f q10 hf
      refine g_aload_n X d_RO_isWeaker_45 1 rfl ?_
      refine g_iload_n X d_RO_isWeaker_46 2 rfl ?_
      obtain ⟨r12, σ13, er12, hf⟩ := bd_some hf
      refine ca_RA_sumOf X d_RO_isWeaker_47 wl_RO_103 ⟨Nat.le_of_ble_eq_true rfl, Nat.le_of_ble_eq_true rfl⟩ (sum8 rfl) er12 ?_
      refine g_aload_n X d_RO_isWeaker_50 1 rfl ?_
      refine g_iload_n X d_RO_isWeaker_51 3 rfl ?_
      obtain ⟨r14, σ15, er14, hf⟩ := bd_some hf
      refine ca_RA_sumOf X d_RO_isWeaker_52 wl_RO_103 ⟨Nat.le_of_ble_eq_true rfl, Nat.le_of_ble_eq_true rfl⟩ (sum8 rfl) er14 ?_
      refine g_ic_le X d_RO_isWeaker_55 62 (by decide) (fun q16 => ?_) (fun q16 => ?_)
      · have hf := ite_t q16 hf
        refine g_iconst X d_RO_isWeaker_62 (v := (nI 0)) rfl ?_
        exact g_zret X d_RO_isWeaker_63 hr hk9 rfl hf
      · have hf := ite_f q16 hf
        refine g_iconst X d_RO_isWeaker_58 (v := (nI 1)) rfl ?_
        refine g_goto X d_RO_isWeaker_59 63 (by decide) ?_
        exact g_zret X d_RO_isWeaker_63 hr hk9 rfl hf
  · have hf := ite_f q5 hf
    refine g_aload_n X d_RO_isWeaker_13 0 rfl ?_
    refine g_iload_n X d_RO_isWeaker_14 2 rfl ?_
    obtain ⟨r17, σ18, er17, hf⟩ := bd_some hf
    refine ca_RO_ballotsFor X d_RO_isWeaker_15 wl_RO_65 ⟨Nat.le_of_ble_eq_true rfl, Nat.le_of_ble_eq_true rfl⟩ (sum8 rfl) er17 ?_
    refine g_aload_n X d_RO_isWeaker_18 0 rfl ?_
    refine g_iload_n X d_RO_isWeaker_19 3 rfl ?_
    obtain ⟨r19, σ20, er19, hf⟩ := bd_some hf
    refine ca_RO_ballotsFor X d_RO_isWeaker_20 wl_RO_65 ⟨Nat.le_of_ble_eq_true rfl, Nat.le_of_ble_eq_true rfl⟩ (sum8 rfl) er19 ?_
    refine g_ic_ge X d_RO_isWeaker_23 30 (by decide) (fun q21 => ?_) (fun q21 => ?_)
    · have hf := ite_t q21 hf
      refine g_iconst X d_RO_isWeaker_30 (v := (nI 0)) rfl ?_
      exact g_zret X d_RO_isWeaker_31 hr hk9 rfl hf
    · have hf := ite_f q21 hf
      refine g_iconst X d_RO_isWeaker_26 (v := (nI 1)) rfl ?_
      refine g_goto X d_RO_isWeaker_27 31 (by decide) ?_
      exact g_zret X d_RO_isWeaker_31 hr hk9 rfl hf
section
variable {R : Room} {kc ks : Nat} {Q : State → Prop} {nL : Nat} {cc : ByteArray} {own : String} {pc : Nat} {lv lv' : List (Nat × Value)} {st : List Value}
theorem ca_RO_isWeaker {x2 : Int32} {x3 : Int32} (X : Cx Γ p R s m args c cc nL own kc ks) {idx : Nat} (hd : decode cc pc = .ok (.invokevirtual idx, 3)) (hlk : Cond.methodLink own idx y_RO_isWeaker ∈ lw_gt) (hR : 2 + 1 ≤ R.frames ∧ 8 + (4 + 11) + 42 ≤ R.locals) (hw : (st.map fun v => v.category).sum ≤ 8) {σ σ' : Sg} {r : Int32} (hf : f_RO_isWeaker x2 x3 σ = some (r, σ')) (k : G Γ p l e R s m args below meth c kc ks Q nL (pc + 3) lv (.int r :: st) σ') : G Γ p l e R s m args below meth c kc ks Q nL pc lv (.int x3 :: .int x2 :: .ref (Γ.2.2.1 89) :: .ref (Γ.2.2.1 93) :: st) σ :=
  g_callV (As := [.ref (Γ.2.2.1 89), .int x2, .int x3]) (rest := st) X hd (c_RO_isWeaker' hf) co_RO_isWeaker hlk wn_RO_isWeaker wse_RO_isWeaker (by decide) kd_93 rfl hR rfl rfl hw k
end
set_option maxRecDepth 10000 in
theorem w_RO_weakest_5 {r : Int32} {σ' : Sg} (X : Cx Γ p (z_rm 3 65) s m args c c_RO_weakest 4 "CaptionTallies$Rounds" 0 0) (hr : meth.sig.returnType = (some .int)) (hk9 : meth.locks = false) : ∀ (n9 : Nat) (x2 : Int32) (x3 : Int32) (σ : Sg), f_RO_weakest_5 n9 x2 x3 σ = some (r, σ') → G Γ p l e (z_rm 3 65) s m args below meth c 0 0 (MQ below (Qx Γ (some (.int r)) σ') args s 0 0 (fun q : Nat => Γ.2.2.2 ≤ q)) 4 5 [(0, .ref (Γ.2.2.1 93)), (1, .ref (Γ.2.2.1 89)), (2, .int x2), (3, .int x3)] [] σ := by
  intro n9
  induction n9 with
  | zero => intro x2 x3 σ hf; cases hf
  | succ n9 ih =>
    intro x2 x3 σ hf
    rw [f_RO_weakest_5] at hf
    refine g_iload_n X d_RO_weakest_5 3 rfl ?_
    refine g_bipush X d_RO_weakest_6 (v := (nI 20)) rfl ?_
    refine g_ic_ge X d_RO_weakest_8 44 (by decide) (fun q1 => ?_) (fun q1 => ?_)
    · have hf := ite_t q1 hf
      refine g_iload_n X d_RO_weakest_44 2 rfl ?_
      exact g_iret X d_RO_weakest_45 hr hk9 hf
    · have hf := ite_f q1 hf
      refine g_aload_n X d_RO_weakest_11 0 rfl ?_
      refine gf_93_0 X d_RO_weakest_12 wl_RO_9 ?_
      refine g_iload_n X d_RO_weakest_15 3 rfl ?_
      obtain ⟨b2, hf⟩ := gd_some hf
      refine g_zald X d_RO_weakest_16 kd_94 b2 ?_
      refine g_if_eq X d_RO_weakest_17 38 (by decide) (fun q3 => ?_) (fun q3 => ?_)
      · have hf := ite_t q3 hf
        refine g_iinc X d_RO_weakest_38 (j := 3) (lv' := [(3, .int (x3 + (nI 1))), (0, .ref (Γ.2.2.1 93)), (1, .ref (Γ.2.2.1 89)), (2, .int x2)]) rfl rfl (Nat.le_of_ble_eq_true rfl) rfl ?_
        refine g_goto X d_RO_weakest_41 5 (by decide) ?_
        refine g_sub [1, 2, 3, 0] rfl ?_
        exact ih _ _ _ hf
      · have hf := ite_f q3 hf
        refine g_iload_n X d_RO_weakest_20 2 rfl ?_
        refine g_bipush X d_RO_weakest_21 (v := (-5)) rfl ?_
        refine g_ic_eq X d_RO_weakest_23 36 (by decide) (fun q4 => ?_) (fun q4 => ?_)
        · have hf := ite_t q4 hf
          refine g_iload_n X d_RO_weakest_36 3 rfl ?_
          refine g_istore_n X d_RO_weakest_37 rfl (lv' := [(2, .int x3), (0, .ref (Γ.2.2.1 93)), (1, .ref (Γ.2.2.1 89)), (3, .int x3)]) (Nat.le_of_ble_eq_true rfl) rfl ?_
          refine g_iinc X d_RO_weakest_38 (j := 3) (lv' := [(3, .int (x3 + (nI 1))), (2, .int x3), (0, .ref (Γ.2.2.1 93)), (1, .ref (Γ.2.2.1 89))]) rfl rfl (Nat.le_of_ble_eq_true rfl) rfl ?_
          refine g_goto X d_RO_weakest_41 5 (by decide) ?_
          refine g_sub [2, 3, 1, 0] rfl ?_
          exact ih _ _ _ hf
        · have hf := ite_f q4 hf
          refine g_aload_n X d_RO_weakest_26 0 rfl ?_
          refine g_aload_n X d_RO_weakest_27 1 rfl ?_
          refine g_iload_n X d_RO_weakest_28 3 rfl ?_
          refine g_iload_n X d_RO_weakest_29 2 rfl ?_
          obtain ⟨r5, σ6, er5, hf⟩ := bd_some hf
          refine ca_RO_isWeaker X d_RO_weakest_30 wl_RO_99 ⟨Nat.le_of_ble_eq_true rfl, Nat.le_of_ble_eq_true rfl⟩ (sum8 rfl) er5 ?_
          refine g_if_eq X d_RO_weakest_33 38 (by decide) (fun q7 => ?_) (fun q7 => ?_)
          · have hf := ite_t q7 hf
            refine g_iinc X d_RO_weakest_38 (j := 3) (lv' := [(3, .int (x3 + (nI 1))), (0, .ref (Γ.2.2.1 93)), (1, .ref (Γ.2.2.1 89)), (2, .int x2)]) rfl rfl (Nat.le_of_ble_eq_true rfl) rfl ?_
            refine g_goto X d_RO_weakest_41 5 (by decide) ?_
            refine g_sub [1, 2, 3, 0] rfl ?_
            exact ih _ _ _ hf
          · have hf := ite_f q7 hf
            refine g_iload_n X d_RO_weakest_36 3 rfl ?_
            refine g_istore_n X d_RO_weakest_37 rfl (lv' := [(2, .int x3), (0, .ref (Γ.2.2.1 93)), (1, .ref (Γ.2.2.1 89)), (3, .int x3)]) (Nat.le_of_ble_eq_true rfl) rfl ?_
            refine g_iinc X d_RO_weakest_38 (j := 3) (lv' := [(3, .int (x3 + (nI 1))), (2, .int x3), (0, .ref (Γ.2.2.1 93)), (1, .ref (Γ.2.2.1 89))]) rfl rfl (Nat.le_of_ble_eq_true rfl) rfl ?_
            refine g_goto X d_RO_weakest_41 5 (by decide) ?_
            refine g_sub [2, 3, 1, 0] rfl ?_
            exact ih _ _ _ hf
set_option maxRecDepth 10000 in
theorem c_RO_weakest' {Γ : Gm} {l : Launch} {σ σ' : Sg} {r : Int32} (hf : f_RO_weakest σ = some (r, σ')) : Ctr Γ l y_RO_weakest c_RO_weakest 4 (some .int) 3 65 [.ref (Γ.2.2.1 93), .ref (Γ.2.2.1 89)] σ σ' (some (.int r)) := by
  refine Ctr.of (lv := [(0, .ref (Γ.2.2.1 93)), (1, .ref (Γ.2.2.1 89))]) (by decide +kernel) (Nat.le_of_ble_eq_true rfl) rfl ?_
  intro p e s m args below meth c X hr hk9
  have X : Cx Γ p (z_rm 3 65) s m args c c_RO_weakest 4 "CaptionTallies$Rounds" 0 0 := X
  rw [f_RO_weakest] at hf
  refine g_bipush X d_RO_weakest_0 (v := (-5)) rfl ?_
  refine g_istore_n X d_RO_weakest_2 rfl (lv' := [(2, .int (-5)), (0, .ref (Γ.2.2.1 93)), (1, .ref (Γ.2.2.1 89))]) (Nat.le_of_ble_eq_true rfl) rfl ?_
  refine g_iconst X d_RO_weakest_3 (v := (nI 0)) rfl ?_
  refine g_istore_n X d_RO_weakest_4 rfl (lv' := [(3, .int (nI 0)), (2, .int (-5)), (0, .ref (Γ.2.2.1 93)), (1, .ref (Γ.2.2.1 89))]) (Nat.le_of_ble_eq_true rfl) rfl ?_
  refine g_sub [2, 3, 1, 0] rfl ?_
  exact w_RO_weakest_5 X hr hk9 _ _ _ _ hf
section
variable {R : Room} {kc ks : Nat} {Q : State → Prop} {nL : Nat} {cc : ByteArray} {own : String} {pc : Nat} {lv lv' : List (Nat × Value)} {st : List Value}
theorem ca_RO_weakest (X : Cx Γ p R s m args c cc nL own kc ks) {idx : Nat} (hd : decode cc pc = .ok (.invokevirtual idx, 3)) (hlk : Cond.methodLink own idx y_RO_weakest ∈ lw_gt) (hR : 3 + 1 ≤ R.frames ∧ 8 + (4 + 11) + 65 ≤ R.locals) (hw : (st.map fun v => v.category).sum ≤ 8) {σ σ' : Sg} {r : Int32} (hf : f_RO_weakest σ = some (r, σ')) (k : G Γ p l e R s m args below meth c kc ks Q nL (pc + 3) lv (.int r :: st) σ') : G Γ p l e R s m args below meth c kc ks Q nL pc lv (.ref (Γ.2.2.1 89) :: .ref (Γ.2.2.1 93) :: st) σ :=
  g_callV (As := [.ref (Γ.2.2.1 89)]) (rest := st) X hd (c_RO_weakest' hf) co_RO_weakest hlk wn_RO_weakest wse_RO_weakest (by decide) kd_93 rfl hR rfl rfl hw k
end
set_option maxRecDepth 10000 in
theorem w_RO_play_27 {r : Int32} {σ' : Sg} (X : Cx Γ p (z_rm 4 91) s m args c c_RO_play 6 "CaptionTallies$Rounds" 0 0) (hr : meth.sig.returnType = none) (hk9 : meth.locks = false) : ∀ (n9 : Nat) (x4 : Int32) (σ : Sg), f_RO_play_27 n9 x4 σ = some (r, σ') → G Γ p l e (z_rm 4 91) s m args below meth c 0 0 (MQ below (Qx Γ none σ') args s 0 0 (fun q : Nat => Γ.2.2.2 ≤ q)) 6 27 [(0, .ref (Γ.2.2.1 93)), (1, .ref (Γ.2.2.1 0)), (2, .ref (Γ.2.2.1 82)), (3, .ref (Γ.2.2.1 89)), (4, .int x4)] [] σ := by
  intro n9
  induction n9 with
  | zero => intro x4 σ hf; cases hf
  | succ n9 ih =>
    intro x4 σ hf
    rw [f_RO_play_27] at hf
    refine g_iload X d_RO_play_27 4 rfl ?_
    refine g_aload_n X d_RO_play_29 0 rfl ?_
    refine gf_93_6 X d_RO_play_30 wl_RO_31 ?_
    refine g_ic_ge X d_RO_play_33 104 (by decide) (fun q1 => ?_) (fun q1 => ?_)
    · have hf := ite_t q1 hf
      exact g_vret X d_RO_play_104 hr hk9 hf
    · have hf := ite_f q1 hf
      refine g_aload_n X d_RO_play_36 0 rfl ?_
      refine g_aload_n X d_RO_play_37 1 rfl ?_
      refine g_aload_n X d_RO_play_38 2 rfl ?_
      obtain ⟨r2, σ3, er2, hf⟩ := bd_some hf
      refine ca_RO_choose X d_RO_play_39 wl_RO_53 ⟨Nat.le_of_ble_eq_true rfl, Nat.le_of_ble_eq_true rfl⟩ (sum8 rfl) er2 ?_
      refine g_aload_n X d_RO_play_42 0 rfl ?_
      refine g_aload_n X d_RO_play_43 3 rfl ?_
      obtain ⟨r4, σ5, er4, hf⟩ := bd_some hf
      refine ca_RO_weakest X d_RO_play_44 wl_RO_57 ⟨Nat.le_of_ble_eq_true rfl, Nat.le_of_ble_eq_true rfl⟩ (sum8 rfl) er4 ?_
      refine g_istore X d_RO_play_47 (lv' := [(5, .int r4), (0, .ref (Γ.2.2.1 93)), (1, .ref (Γ.2.2.1 0)), (2, .ref (Γ.2.2.1 82)), (3, .ref (Γ.2.2.1 89)), (4, .int x4)]) (Nat.le_of_ble_eq_true rfl) rfl ?_
      refine g_aload_n X d_RO_play_49 1 rfl ?_
      refine gf_93_3 X d_RO_play_50 wl_RO_22 ?_
      refine g_iload X d_RO_play_53 5 rfl ?_
      refine g_iload X d_RO_play_55 0 rfl ?_
      obtain ⟨r6, σ7, er6, hf⟩ := bd_some hf
      refine can_CT_put X d_RO_play_57 wl_RO_61 ⟨Nat.le_of_ble_eq_true rfl, Nat.le_of_ble_eq_true rfl⟩ (sum8 rfl) kd_97 er6 ?_
      refine g_aload_n X d_RO_play_60 1 rfl ?_
      refine gf_93_4 X d_RO_play_61 wl_RO_25 ?_
      refine g_iload X d_RO_play_64 5 rfl ?_
      refine g_aload_n X d_RO_play_66 1 rfl ?_
      refine g_iload X d_RO_play_67 0 rfl ?_
      obtain ⟨r8, σ9, er8, hf⟩ := bd_some hf
      refine ca_RO_ballotsFor X d_RO_play_69 wl_RO_65 ⟨Nat.le_of_ble_eq_true rfl, Nat.le_of_ble_eq_true rfl⟩ (sum8 rfl) er8 ?_
      obtain ⟨r10, σ11, er10, hf⟩ := bd_some hf
      refine can_CT_put X d_RO_play_72 wl_RO_61 ⟨Nat.le_of_ble_eq_true rfl, Nat.le_of_ble_eq_true rfl⟩ (sum8 rfl) kd_98 er10 ?_
      refine g_aload_n X d_RO_play_75 1 rfl ?_
      refine gf_93_5 X d_RO_play_76 wl_RO_28 ?_
      refine g_iload X d_RO_play_79 5 rfl ?_
      refine g_aload_n X d_RO_play_81 1 rfl ?_
      refine g_bipush X d_RO_play_82 (v := (-5)) rfl ?_
      obtain ⟨r12, σ13, er12, hf⟩ := bd_some hf
      refine ca_RO_ballotsFor X d_RO_play_84 wl_RO_65 ⟨Nat.le_of_ble_eq_true rfl, Nat.le_of_ble_eq_true rfl⟩ (sum8 rfl) er12 ?_
      obtain ⟨r14, σ15, er14, hf⟩ := bd_some hf
      refine can_CT_put X d_RO_play_87 wl_RO_61 ⟨Nat.le_of_ble_eq_true rfl, Nat.le_of_ble_eq_true rfl⟩ (sum8 rfl) kd_99 er14 ?_
      refine g_aload_n X d_RO_play_90 1 rfl ?_
      refine g_iload X d_RO_play_91 0 rfl ?_
      refine g_iload X d_RO_play_93 5 rfl ?_
      obtain ⟨r16, σ17, er16, hf⟩ := bd_some hf
      refine ca_RO_leaveOut X d_RO_play_95 wl_RO_69 ⟨Nat.le_of_ble_eq_true rfl, Nat.le_of_ble_eq_true rfl⟩ (sum8 rfl) er16 ?_
      refine g_iinc X d_RO_play_98 (j := 5) (lv' := [(4, .int (x4 + (nI 1))), (5, .int r4), (0, .ref (Γ.2.2.1 93)), (1, .ref (Γ.2.2.1 0)), (2, .ref (Γ.2.2.1 82)), (3, .ref (Γ.2.2.1 89))]) rfl rfl (Nat.le_of_ble_eq_true rfl) rfl ?_
      refine g_goto X d_RO_play_101 27 (by decide) ?_
      refine g_sub [2, 3, 4, 5, 0] rfl ?_
      exact ih _ _ hf
set_option maxRecDepth 10000 in
theorem c_RO_play' {Γ : Gm} {l : Launch} {σ σ' : Sg} {r : Int32} (hf : f_RO_play σ = some (r, σ')) : Ctr Γ l y_RO_play c_RO_play 6 none 4 91 [.ref (Γ.2.2.1 93), .ref (Γ.2.2.1 0), .ref (Γ.2.2.1 82), .ref (Γ.2.2.1 89)] σ σ' none := by
  refine Ctr.of (lv := [(0, .ref (Γ.2.2.1 93)), (1, .ref (Γ.2.2.1 0)), (2, .ref (Γ.2.2.1 82)), (3, .ref (Γ.2.2.1 89))]) (by decide +kernel) (Nat.le_of_ble_eq_true rfl) rfl ?_
  intro p e s m args below meth c X hr hk9
  have X : Cx Γ p (z_rm 4 91) s m args c c_RO_play 6 "CaptionTallies$Rounds" 0 0 := X
  rw [f_RO_play] at hf
  refine g_aload_n X d_RO_play_0 0 rfl ?_
  refine g_aload_n X d_RO_play_1 2 rfl ?_
  obtain ⟨r1, σ2, er1, hf⟩ := bd_some hf
  refine ca_RO_beginWith X d_RO_play_2 wl_RO_35 ⟨Nat.le_of_ble_eq_true rfl, Nat.le_of_ble_eq_true rfl⟩ (sum8 rfl) er1 ?_
  refine g_aload_n X d_RO_play_5 0 rfl ?_
  refine g_aload_n X d_RO_play_6 2 rfl ?_
  obtain ⟨r3, σ4, er3, hf⟩ := bd_some hf
  refine ca_GR_number X d_RO_play_7 wl_RO_39 ⟨Nat.le_of_ble_eq_true rfl, Nat.le_of_ble_eq_true rfl⟩ (sum8 rfl) er3 ?_
  refine g_iconst X d_RO_play_10 (v := (nI 1)) rfl ?_
  refine g_isub X d_RO_play_11 ?_
  refine g_iconst X d_RO_play_12 (v := (nI 0)) rfl ?_
  refine g_mmax X d_RO_play_13 wl_RO_44 wm_max_s wi_MA wm_max_c ⟨Nat.le_of_ble_eq_true rfl, Nat.le_of_ble_eq_true rfl⟩ ?_
  refine g_bipush X d_RO_play_16 (v := (nI 20)) rfl ?_
  refine g_mmin X d_RO_play_18 wl_RO_50 wm_min_s wi_MA wm_min_c ⟨Nat.le_of_ble_eq_true rfl, Nat.le_of_ble_eq_true rfl⟩ ?_
  obtain ⟨σ5, eσ5, hf⟩ := lt_ex hf
  refine gp_93_6 X d_RO_play_21 wl_RO_31 eσ5 ?_
  refine g_iconst X d_RO_play_24 (v := (nI 0)) rfl ?_
  refine g_istore X d_RO_play_25 (lv' := [(4, .int (nI 0)), (0, .ref (Γ.2.2.1 93)), (1, .ref (Γ.2.2.1 0)), (2, .ref (Γ.2.2.1 82)), (3, .ref (Γ.2.2.1 89))]) (Nat.le_of_ble_eq_true rfl) rfl ?_
  refine g_sub [1, 2, 3, 4, 0] rfl ?_
  exact w_RO_play_27 X hr hk9 _ _ _ hf
section
variable {R : Room} {kc ks : Nat} {Q : State → Prop} {nL : Nat} {cc : ByteArray} {own : String} {pc : Nat} {lv lv' : List (Nat × Value)} {st : List Value}
theorem ca_RO_play (X : Cx Γ p R s m args c cc nL own kc ks) {idx : Nat} (hd : decode cc pc = .ok (.invokevirtual idx, 3)) (hlk : Cond.methodLink own idx y_RO_play ∈ lw_gt) (hR : 4 + 1 ≤ R.frames ∧ 8 + (6 + 11) + 91 ≤ R.locals) (hw : (st.map fun v => v.category).sum ≤ 8) {σ σ' : Sg} {r : Int32} (hf : f_RO_play σ = some (r, σ')) (k : G Γ p l e R s m args below meth c kc ks Q nL (pc + 3) lv (st) σ') : G Γ p l e R s m args below meth c kc ks Q nL pc lv (.ref (Γ.2.2.1 89) :: .ref (Γ.2.2.1 82) :: .ref (Γ.2.2.1 0) :: .ref (Γ.2.2.1 93) :: st) σ :=
  g_callV (As := [.ref (Γ.2.2.1 0), .ref (Γ.2.2.1 82), .ref (Γ.2.2.1 89)]) (rest := st) X hd (c_RO_play' hf) co_RO_play hlk wn_RO_play wse_RO_play (by decide) kd_93 rfl hR rfl rfl hw k
end
set_option maxRecDepth 10000 in
theorem c_CT_portion' {Γ : Gm} {l : Launch} {x0 : Int32} {x1 : Int32} {x2 : Int32} {σ σ' : Sg} {r : Int32} (hf : f_CT_portion x0 x1 x2 σ = some (r, σ')) : Ctr Γ l y_CT_portion c_CT_portion 4 (some .int) 0 0 [.int x0, .int x1, .int x2] σ σ' (some (.int r)) := by
  refine Ctr.of (lv := [(0, .int x0), (1, .int x1), (2, .int x2)]) (by decide +kernel) (Nat.le_of_ble_eq_true rfl) rfl ?_
  intro p e s m args below meth c X hr hk9
  have X : Cx Γ p (z_rm 0 0) s m args c c_CT_portion 4 "CaptionTallies" 0 0 := X
  rw [f_CT_portion] at hf
  refine g_iload_n X d_CT_portion_0 1 rfl ?_
  refine g_iconst X d_CT_portion_1 (v := (nI 1)) rfl ?_
  refine g_ic_ge X d_CT_portion_2 7 (by decide) (fun q1 => ?_) (fun q1 => ?_)
  · have hf := ite_t q1 hf
    refine g_iload_n X d_CT_portion_7 0 rfl ?_
    refine g_iload_n X d_CT_portion_8 1 rfl ?_
    obtain ⟨b2, hf⟩ := gd_some hf
    refine g_irem X d_CT_portion_9 (nz_of b2) ?_
    obtain ⟨v3, ev3, hf⟩ := lt_ex hf
    refine g_top ev3 ?_
    refine g_istore_n X d_CT_portion_10 rfl (lv' := [(3, .int v3), (0, .int x0), (1, .int x1), (2, .int x2)]) (Nat.le_of_ble_eq_true rfl) rfl ?_
    refine g_iload_n X d_CT_portion_11 1 rfl ?_
    refine g_iload_n X d_CT_portion_12 2 rfl ?_
    obtain ⟨b4, hf⟩ := gd_some hf
    refine g_idiv X d_CT_portion_13 (nz_of b4) ?_
    refine g_iload_n X d_CT_portion_14 3 rfl ?_
    refine g_iload_n X d_CT_portion_15 0 rfl ?_
    refine g_ic_ge X d_CT_portion_16 23 (by decide) (fun q5 => ?_) (fun q5 => ?_)
    · have hf := ite_t q5 hf
      refine g_iconst X d_CT_portion_23 (v := (nI 0)) rfl ?_
      refine g_iadd X d_CT_portion_24 ?_
      exact g_iret X d_CT_portion_25 hr hk9 hf
    · have hf := ite_f q5 hf
      refine g_iconst X d_CT_portion_19 (v := (nI 1)) rfl ?_
      refine g_goto X d_CT_portion_20 24 (by decide) ?_
      refine g_iadd X d_CT_portion_24 ?_
      exact g_iret X d_CT_portion_25 hr hk9 hf
  · have hf := ite_f q1 hf
    refine g_iconst X d_CT_portion_5 (v := (nI 0)) rfl ?_
    exact g_iret X d_CT_portion_6 hr hk9 hf
section
variable {R : Room} {kc ks : Nat} {Q : State → Prop} {nL : Nat} {cc : ByteArray} {own : String} {pc : Nat} {lv lv' : List (Nat × Value)} {st : List Value}
theorem ca_CT_portion {x0 : Int32} {x1 : Int32} {x2 : Int32} (X : Cx Γ p R s m args c cc nL own kc ks) {idx : Nat} (hd : decode cc pc = .ok (.invokestatic idx, 3)) (hlk : Cond.methodLink own idx y_CT_portion ∈ lw_gt) (hR : 0 + 1 ≤ R.frames ∧ 8 + (4 + 11) + 0 ≤ R.locals) (hw : (st.map fun v => v.category).sum ≤ 8) {σ σ' : Sg} {r : Int32} (hf : f_CT_portion x0 x1 x2 σ = some (r, σ')) (k : G Γ p l e R s m args below meth c kc ks Q nL (pc + 3) lv (.int r :: st) σ') : G Γ p l e R s m args below meth c kc ks Q nL pc lv (.int x2 :: .int x1 :: .int x0 :: st) σ :=
  g_callS (As := [.int x0, .int x1, .int x2]) (rest := st) X hd (c_CT_portion' hf) co_CT_portion hlk wn_CT_portion hR rfl rfl hw k
theorem can_CT_portion {x0 : Int32} {x1 : Int32} {x2 : Int32} (X : Cx Γ p R s m args c cc nL own kc ks) {idx : Nat} (hd : decode cc pc = .ok (.invokestatic idx, 3)) (hlk : (own, idx, y_CT_portion) ∈ z_nests) (hR : 0 + 1 ≤ R.frames ∧ 8 + (4 + 11) + 0 ≤ R.locals) (hw : (st.map fun v => v.category).sum ≤ 8) {σ σ' : Sg} {r : Int32} (hf : f_CT_portion x0 x1 x2 σ = some (r, σ')) (k : G Γ p l e R s m args below meth c kc ks Q nL (pc + 3) lv (.int r :: st) σ') : G Γ p l e R s m args below meth c kc ks Q nL pc lv (.int x2 :: .int x1 :: .int x0 :: st) σ :=
  g_callSN (As := [.int x0, .int x1, .int x2]) (rest := st) X hd (c_CT_portion' hf) co_CT_portion hlk wn_CT_portion hR rfl rfl hw k
end
set_option maxRecDepth 10000 in
theorem w_GR_membersBelow_5 {r : Int32} {σ' : Sg} (X : Cx Γ p (z_rm 0 0) s m args c c_GR_membersBelow 5 "CaptionTallies$Groups" 0 0) (hr : meth.sig.returnType = (some .int)) (hk9 : meth.locks = false) : ∀ (n9 : Nat) (x1 : Int32) (x2 : Int32) (x3 : Int32) (x4 : Int32) (σ : Sg), f_GR_membersBelow_5 n9 x1 x2 x3 x4 σ = some (r, σ') → G Γ p l e (z_rm 0 0) s m args below meth c 0 0 (MQ below (Qx Γ (some (.int r)) σ') args s 0 0 (fun q : Nat => Γ.2.2.2 ≤ q)) 5 5 [(0, .ref (Γ.2.2.1 82)), (1, .int x1), (2, .int x2), (3, .int x3), (4, .int x4)] [] σ := by
  intro n9
  induction n9 with
  | zero => intro x1 x2 x3 x4 σ hf; cases hf
  | succ n9 ih =>
    intro x1 x2 x3 x4 σ hf
    rw [f_GR_membersBelow_5] at hf
    refine g_iload X d_GR_membersBelow_5 4 rfl ?_
    refine g_bipush X d_GR_membersBelow_7 (v := (nI 20)) rfl ?_
    refine g_ic_ge X d_GR_membersBelow_9 38 (by decide) (fun q1 => ?_) (fun q1 => ?_)
    · have hf := ite_t q1 hf
      refine g_iload_n X d_GR_membersBelow_38 3 rfl ?_
      exact g_iret X d_GR_membersBelow_39 hr hk9 hf
    · have hf := ite_f q1 hf
      refine g_iload X d_GR_membersBelow_12 4 rfl ?_
      refine g_iload_n X d_GR_membersBelow_14 2 rfl ?_
      refine g_ic_ge X d_GR_membersBelow_15 38 (by decide) (fun q2 => ?_) (fun q2 => ?_)
      · have hf := ite_t q2 hf
        refine g_iload_n X d_GR_membersBelow_38 3 rfl ?_
        exact g_iret X d_GR_membersBelow_39 hr hk9 hf
      · have hf := ite_f q2 hf
        refine g_aload_n X d_GR_membersBelow_18 0 rfl ?_
        refine gf_82_0 X d_GR_membersBelow_19 wl_GR_9 ?_
        refine g_iload X d_GR_membersBelow_22 4 rfl ?_
        obtain ⟨b3, hf⟩ := gd_some hf
        refine g_iald X d_GR_membersBelow_24 kd_83 b3 ?_
        refine g_iload_n X d_GR_membersBelow_25 1 rfl ?_
        refine g_ic_ne X d_GR_membersBelow_26 32 (by decide) (fun q4 => ?_) (fun q4 => ?_)
        · have hf := ite_f q4 hf
          refine g_iinc X d_GR_membersBelow_32 (j := 4) (lv' := [(4, .int (x4 + (nI 1))), (0, .ref (Γ.2.2.1 82)), (1, .int x1), (2, .int x2), (3, .int x3)]) rfl rfl (Nat.le_of_ble_eq_true rfl) rfl ?_
          refine g_goto X d_GR_membersBelow_35 5 (by decide) ?_
          refine g_sub [1, 2, 3, 4, 0] rfl ?_
          exact ih _ _ _ _ _ hf
        · have hf := ite_t q4 hf
          refine g_iinc X d_GR_membersBelow_29 (j := 3) (lv' := [(3, .int (x3 + (nI 1))), (0, .ref (Γ.2.2.1 82)), (1, .int x1), (2, .int x2), (4, .int x4)]) rfl rfl (Nat.le_of_ble_eq_true rfl) rfl ?_
          refine g_iinc X d_GR_membersBelow_32 (j := 4) (lv' := [(4, .int (x4 + (nI 1))), (3, .int (x3 + (nI 1))), (0, .ref (Γ.2.2.1 82)), (1, .int x1), (2, .int x2)]) rfl rfl (Nat.le_of_ble_eq_true rfl) rfl ?_
          refine g_goto X d_GR_membersBelow_35 5 (by decide) ?_
          refine g_sub [2, 3, 4, 1, 0] rfl ?_
          exact ih _ _ _ _ _ hf
set_option maxRecDepth 10000 in
theorem c_GR_membersBelow' {Γ : Gm} {l : Launch} {x1 : Int32} {x2 : Int32} {σ σ' : Sg} {r : Int32} (hf : f_GR_membersBelow x1 x2 σ = some (r, σ')) : Ctr Γ l y_GR_membersBelow c_GR_membersBelow 5 (some .int) 0 0 [.ref (Γ.2.2.1 82), .int x1, .int x2] σ σ' (some (.int r)) := by
  refine Ctr.of (lv := [(0, .ref (Γ.2.2.1 82)), (1, .int x1), (2, .int x2)]) (by decide +kernel) (Nat.le_of_ble_eq_true rfl) rfl ?_
  intro p e s m args below meth c X hr hk9
  have X : Cx Γ p (z_rm 0 0) s m args c c_GR_membersBelow 5 "CaptionTallies$Groups" 0 0 := X
  rw [f_GR_membersBelow] at hf
  refine g_iconst X d_GR_membersBelow_0 (v := (nI 0)) rfl ?_
  refine g_istore_n X d_GR_membersBelow_1 rfl (lv' := [(3, .int (nI 0)), (0, .ref (Γ.2.2.1 82)), (1, .int x1), (2, .int x2)]) (Nat.le_of_ble_eq_true rfl) rfl ?_
  refine g_iconst X d_GR_membersBelow_2 (v := (nI 0)) rfl ?_
  refine g_istore X d_GR_membersBelow_3 (lv' := [(4, .int (nI 0)), (3, .int (nI 0)), (0, .ref (Γ.2.2.1 82)), (1, .int x1), (2, .int x2)]) (Nat.le_of_ble_eq_true rfl) rfl ?_
  refine g_sub [2, 3, 4, 1, 0] rfl ?_
  exact w_GR_membersBelow_5 X hr hk9 _ _ _ _ _ _ hf
section
variable {R : Room} {kc ks : Nat} {Q : State → Prop} {nL : Nat} {cc : ByteArray} {own : String} {pc : Nat} {lv lv' : List (Nat × Value)} {st : List Value}
theorem ca_GR_membersBelow {x1 : Int32} {x2 : Int32} (X : Cx Γ p R s m args c cc nL own kc ks) {idx : Nat} (hd : decode cc pc = .ok (.invokevirtual idx, 3)) (hlk : Cond.methodLink own idx y_GR_membersBelow ∈ lw_gt) (hR : 0 + 1 ≤ R.frames ∧ 8 + (5 + 11) + 0 ≤ R.locals) (hw : (st.map fun v => v.category).sum ≤ 8) {σ σ' : Sg} {r : Int32} (hf : f_GR_membersBelow x1 x2 σ = some (r, σ')) (k : G Γ p l e R s m args below meth c kc ks Q nL (pc + 3) lv (.int r :: st) σ') : G Γ p l e R s m args below meth c kc ks Q nL pc lv (.int x2 :: .int x1 :: .ref (Γ.2.2.1 82) :: st) σ :=
  g_callV (As := [.int x1, .int x2]) (rest := st) X hd (c_GR_membersBelow' hf) co_GR_membersBelow hlk wn_GR_membersBelow wse_GR_membersBelow (by decide) kd_82 rfl hR rfl rfl hw k
end
set_option maxRecDepth 10000 in
theorem c_GR_sizeOf' {Γ : Gm} {l : Launch} {x1 : Int32} {σ σ' : Sg} {r : Int32} (hf : f_GR_sizeOf x1 σ = some (r, σ')) : Ctr Γ l y_GR_sizeOf c_GR_sizeOf 2 (some .int) 1 24 [.ref (Γ.2.2.1 82), .int x1] σ σ' (some (.int r)) := by
  refine Ctr.of (lv := [(0, .ref (Γ.2.2.1 82)), (1, .int x1)]) (by decide +kernel) (Nat.le_of_ble_eq_true rfl) rfl ?_
  intro p e s m args below meth c X hr hk9
  have X : Cx Γ p (z_rm 1 24) s m args c c_GR_sizeOf 2 "CaptionTallies$Groups" 0 0 := X
  rw [f_GR_sizeOf] at hf
  refine g_aload_n X d_GR_sizeOf_0 0 rfl ?_
  refine g_iload_n X d_GR_sizeOf_1 1 rfl ?_
  refine g_bipush X d_GR_sizeOf_2 (v := (nI 20)) rfl ?_
  obtain ⟨r1, σ2, er1, hf⟩ := bd_some hf
  refine ca_GR_membersBelow X d_GR_sizeOf_4 wl_GR_60 ⟨Nat.le_of_ble_eq_true rfl, Nat.le_of_ble_eq_true rfl⟩ (sum8 rfl) er1 ?_
  exact g_iret X d_GR_sizeOf_7 hr hk9 hf
section
variable {R : Room} {kc ks : Nat} {Q : State → Prop} {nL : Nat} {cc : ByteArray} {own : String} {pc : Nat} {lv lv' : List (Nat × Value)} {st : List Value}
theorem ca_GR_sizeOf {x1 : Int32} (X : Cx Γ p R s m args c cc nL own kc ks) {idx : Nat} (hd : decode cc pc = .ok (.invokevirtual idx, 3)) (hlk : Cond.methodLink own idx y_GR_sizeOf ∈ lw_gt) (hR : 1 + 1 ≤ R.frames ∧ 8 + (2 + 11) + 24 ≤ R.locals) (hw : (st.map fun v => v.category).sum ≤ 8) {σ σ' : Sg} {r : Int32} (hf : f_GR_sizeOf x1 σ = some (r, σ')) (k : G Γ p l e R s m args below meth c kc ks Q nL (pc + 3) lv (.int r :: st) σ') : G Γ p l e R s m args below meth c kc ks Q nL pc lv (.int x1 :: .ref (Γ.2.2.1 82) :: st) σ :=
  g_callV (As := [.int x1]) (rest := st) X hd (c_GR_sizeOf' hf) co_GR_sizeOf hlk wn_GR_sizeOf wse_GR_sizeOf (by decide) kd_82 rfl hR rfl rfl hw k
end
set_option maxRecDepth 10000 in
theorem c_OR_placeOf' {Γ : Gm} {l : Launch} {x1 : Int32} {σ σ' : Sg} {r : Int32} (hf : f_OR_placeOf x1 σ = some (r, σ')) : Ctr Γ l y_OR_placeOf c_OR_placeOf 2 (some .int) 1 21 [.ref (Γ.2.2.1 100), .int x1] σ σ' (some (.int r)) := by
  refine Ctr.of (lv := [(0, .ref (Γ.2.2.1 100)), (1, .int x1)]) (by decide +kernel) (Nat.le_of_ble_eq_true rfl) rfl ?_
  intro p e s m args below meth c X hr hk9
  have X : Cx Γ p (z_rm 1 21) s m args c c_OR_placeOf 2 "CaptionTallies$Order" 0 0 := X
  rw [f_OR_placeOf] at hf
  refine g_aload_n X d_OR_placeOf_0 0 rfl ?_
  refine gf_100_2 X d_OR_placeOf_1 wl_OR_19 ?_
  refine g_iload_n X d_OR_placeOf_4 1 rfl ?_
  obtain ⟨r1, σ2, er1, hf⟩ := bd_some hf
  refine can_CT_at X d_OR_placeOf_5 wl_OR_43 ⟨Nat.le_of_ble_eq_true rfl, Nat.le_of_ble_eq_true rfl⟩ (sum8 rfl) kd_103 er1 ?_
  exact g_iret X d_OR_placeOf_8 hr hk9 hf
section
variable {R : Room} {kc ks : Nat} {Q : State → Prop} {nL : Nat} {cc : ByteArray} {own : String} {pc : Nat} {lv lv' : List (Nat × Value)} {st : List Value}
theorem ca_OR_placeOf {x1 : Int32} (X : Cx Γ p R s m args c cc nL own kc ks) {idx : Nat} (hd : decode cc pc = .ok (.invokevirtual idx, 3)) (hlk : Cond.methodLink own idx y_OR_placeOf ∈ lw_gt) (hR : 1 + 1 ≤ R.frames ∧ 8 + (2 + 11) + 21 ≤ R.locals) (hw : (st.map fun v => v.category).sum ≤ 8) {σ σ' : Sg} {r : Int32} (hf : f_OR_placeOf x1 σ = some (r, σ')) (k : G Γ p l e R s m args below meth c kc ks Q nL (pc + 3) lv (.int r :: st) σ') : G Γ p l e R s m args below meth c kc ks Q nL pc lv (.int x1 :: .ref (Γ.2.2.1 100) :: st) σ :=
  g_callV (As := [.int x1]) (rest := st) X hd (c_OR_placeOf' hf) co_OR_placeOf hlk wn_OR_placeOf wse_OR_placeOf (by decide) kd_100 rfl hR rfl rfl hw k
end
set_option maxRecDepth 10000 in
theorem c_OR_tiedWith' {Γ : Gm} {l : Launch} {x1 : Int32} {σ σ' : Sg} {r : Int32} (hf : f_OR_tiedWith x1 σ = some (r, σ')) : Ctr Γ l y_OR_tiedWith c_OR_tiedWith 2 (some .int) 2 45 [.ref (Γ.2.2.1 100), .int x1] σ σ' (some (.int r)) := by
  refine Ctr.of (lv := [(0, .ref (Γ.2.2.1 100)), (1, .int x1)]) (by decide +kernel) (Nat.le_of_ble_eq_true rfl) rfl ?_
  intro p e s m args below meth c X hr hk9
  have X : Cx Γ p (z_rm 2 45) s m args c c_OR_tiedWith 2 "CaptionTallies$Order" 0 0 := X
  rw [f_OR_tiedWith] at hf
  refine g_aload_n X d_OR_tiedWith_0 0 rfl ?_
  refine g_iload_n X d_OR_tiedWith_1 1 rfl ?_
  refine g_bipush X d_OR_tiedWith_2 (v := (nI 20)) rfl ?_
  obtain ⟨r1, σ2, er1, hf⟩ := bd_some hf
  refine ca_OR_tiedBelow X d_OR_tiedWith_4 wl_OR_39 ⟨Nat.le_of_ble_eq_true rfl, Nat.le_of_ble_eq_true rfl⟩ (sum8 rfl) er1 ?_
  exact g_iret X d_OR_tiedWith_7 hr hk9 hf
section
variable {R : Room} {kc ks : Nat} {Q : State → Prop} {nL : Nat} {cc : ByteArray} {own : String} {pc : Nat} {lv lv' : List (Nat × Value)} {st : List Value}
theorem ca_OR_tiedWith {x1 : Int32} (X : Cx Γ p R s m args c cc nL own kc ks) {idx : Nat} (hd : decode cc pc = .ok (.invokevirtual idx, 3)) (hlk : Cond.methodLink own idx y_OR_tiedWith ∈ lw_gt) (hR : 2 + 1 ≤ R.frames ∧ 8 + (2 + 11) + 45 ≤ R.locals) (hw : (st.map fun v => v.category).sum ≤ 8) {σ σ' : Sg} {r : Int32} (hf : f_OR_tiedWith x1 σ = some (r, σ')) (k : G Γ p l e R s m args below meth c kc ks Q nL (pc + 3) lv (.int r :: st) σ') : G Γ p l e R s m args below meth c kc ks Q nL pc lv (.int x1 :: .ref (Γ.2.2.1 100) :: st) σ :=
  g_callV (As := [.int x1]) (rest := st) X hd (c_OR_tiedWith' hf) co_OR_tiedWith hlk wn_OR_tiedWith wse_OR_tiedWith (by decide) kd_100 rfl hR rfl rfl hw k
end
set_option maxRecDepth 10000 in
theorem c_SH_ofGroup' {Γ : Gm} {l : Launch} {x1 : Int32} {σ σ' : Sg} {r : Int32} (hf : f_SH_ofGroup x1 σ = some (r, σ')) : Ctr Γ l y_SH_ofGroup c_SH_ofGroup 2 (some .int) 1 21 [.ref (Γ.2.2.1 105), .int x1] σ σ' (some (.int r)) := by
  refine Ctr.of (lv := [(0, .ref (Γ.2.2.1 105)), (1, .int x1)]) (by decide +kernel) (Nat.le_of_ble_eq_true rfl) rfl ?_
  intro p e s m args below meth c X hr hk9
  have X : Cx Γ p (z_rm 1 21) s m args c c_SH_ofGroup 2 "CaptionTallies$Shares" 0 0 := X
  rw [f_SH_ofGroup] at hf
  refine g_aload_n X d_SH_ofGroup_0 0 rfl ?_
  refine gf_105_0 X d_SH_ofGroup_1 wl_SH_9 ?_
  refine g_iload_n X d_SH_ofGroup_4 1 rfl ?_
  obtain ⟨r1, σ2, er1, hf⟩ := bd_some hf
  refine can_CT_at X d_SH_ofGroup_5 wl_SH_68 ⟨Nat.le_of_ble_eq_true rfl, Nat.le_of_ble_eq_true rfl⟩ (sum8 rfl) kd_106 er1 ?_
  exact g_iret X d_SH_ofGroup_8 hr hk9 hf
section
variable {R : Room} {kc ks : Nat} {Q : State → Prop} {nL : Nat} {cc : ByteArray} {own : String} {pc : Nat} {lv lv' : List (Nat × Value)} {st : List Value}
theorem ca_SH_ofGroup {x1 : Int32} (X : Cx Γ p R s m args c cc nL own kc ks) {idx : Nat} (hd : decode cc pc = .ok (.invokevirtual idx, 3)) (hlk : Cond.methodLink own idx y_SH_ofGroup ∈ lw_gt) (hR : 1 + 1 ≤ R.frames ∧ 8 + (2 + 11) + 21 ≤ R.locals) (hw : (st.map fun v => v.category).sum ≤ 8) {σ σ' : Sg} {r : Int32} (hf : f_SH_ofGroup x1 σ = some (r, σ')) (k : G Γ p l e R s m args below meth c kc ks Q nL (pc + 3) lv (.int r :: st) σ') : G Γ p l e R s m args below meth c kc ks Q nL pc lv (.int x1 :: .ref (Γ.2.2.1 105) :: st) σ :=
  g_callV (As := [.int x1]) (rest := st) X hd (c_SH_ofGroup' hf) co_SH_ofGroup hlk wn_SH_ofGroup wse_SH_ofGroup (by decide) kd_105 rfl hR rfl rfl hw k
end
set_option maxRecDepth 10000 in
theorem c_ST_prizeGivenAt' {Γ : Gm} {l : Launch} {x1 : Int32} {σ σ' : Sg} {r : Int32} (hf : f_ST_prizeGivenAt x1 σ = some (r, σ')) : Ctr Γ l y_ST_prizeGivenAt c_ST_prizeGivenAt 2 (some .int) 2 42 [.ref (Γ.2.2.1 0), .int x1] σ σ' (some (.int r)) := by
  refine Ctr.of (lv := [(0, .ref (Γ.2.2.1 0)), (1, .int x1)]) (by decide +kernel) (Nat.le_of_ble_eq_true rfl) rfl ?_
  intro p e s m args below meth c X hr hk9
  have X : Cx Γ p (z_rm 2 42) s m args c c_ST_prizeGivenAt 2 "CaptionTallies$State" 0 0 := X
  rw [f_ST_prizeGivenAt] at hf
  refine g_iload_n X d_ST_prizeGivenAt_0 1 rfl ?_
  refine g_iconst X d_ST_prizeGivenAt_1 (v := (nI 1)) rfl ?_
  refine g_isub X d_ST_prizeGivenAt_2 ?_
  refine g_aload_n X d_ST_prizeGivenAt_3 0 rfl ?_
  refine g_iconst X d_ST_prizeGivenAt_4 (v := (nI 1)) rfl ?_
  obtain ⟨r1, σ2, er1, hf⟩ := bd_some hf
  refine ca_ST_setting X d_ST_prizeGivenAt_5 wl_ST_134 ⟨Nat.le_of_ble_eq_true rfl, Nat.le_of_ble_eq_true rfl⟩ (sum8 rfl) er1 ?_
  obtain ⟨r3, σ4, er3, hf⟩ := bd_some hf
  refine can_CT_isIndex X d_ST_prizeGivenAt_8 wl_ST_67 ⟨Nat.le_of_ble_eq_true rfl, Nat.le_of_ble_eq_true rfl⟩ (sum8 rfl) er3 ?_
  refine g_if_eq X d_ST_prizeGivenAt_11 22 (by decide) (fun q5 => ?_) (fun q5 => ?_)
  · have hf := ite_t q5 hf
    refine g_iconst X d_ST_prizeGivenAt_22 (v := (nI 0)) rfl ?_
    exact g_iret X d_ST_prizeGivenAt_23 hr hk9 hf
  · have hf := ite_f q5 hf
    refine g_aload_n X d_ST_prizeGivenAt_14 0 rfl ?_
    refine g_iload_n X d_ST_prizeGivenAt_15 1 rfl ?_
    obtain ⟨r6, σ7, er6, hf⟩ := bd_some hf
    refine ca_ST_prizeOf X d_ST_prizeGivenAt_16 wl_ST_137 ⟨Nat.le_of_ble_eq_true rfl, Nat.le_of_ble_eq_true rfl⟩ (sum8 rfl) er6 ?_
    refine g_goto X d_ST_prizeGivenAt_19 23 (by decide) ?_
    exact g_iret X d_ST_prizeGivenAt_23 hr hk9 hf
section
variable {R : Room} {kc ks : Nat} {Q : State → Prop} {nL : Nat} {cc : ByteArray} {own : String} {pc : Nat} {lv lv' : List (Nat × Value)} {st : List Value}
theorem ca_ST_prizeGivenAt {x1 : Int32} (X : Cx Γ p R s m args c cc nL own kc ks) {idx : Nat} (hd : decode cc pc = .ok (.invokevirtual idx, 3)) (hlk : Cond.methodLink own idx y_ST_prizeGivenAt ∈ lw_gt) (hR : 2 + 1 ≤ R.frames ∧ 8 + (2 + 11) + 42 ≤ R.locals) (hw : (st.map fun v => v.category).sum ≤ 8) {σ σ' : Sg} {r : Int32} (hf : f_ST_prizeGivenAt x1 σ = some (r, σ')) (k : G Γ p l e R s m args below meth c kc ks Q nL (pc + 3) lv (.int r :: st) σ') : G Γ p l e R s m args below meth c kc ks Q nL pc lv (.int x1 :: .ref (Γ.2.2.1 0) :: st) σ :=
  g_callV (As := [.int x1]) (rest := st) X hd (c_ST_prizeGivenAt' hf) co_ST_prizeGivenAt hlk wn_ST_prizeGivenAt wse_ST_prizeGivenAt (by decide) kd_0 rfl hR rfl rfl hw k
end
set_option maxRecDepth 10000 in
theorem w_SH_prizesTogether_5 {r : Int32} {σ' : Sg} (X : Cx Γ p (z_rm 3 63) s m args c c_SH_prizesTogether 5 "CaptionTallies$Shares" 0 0) (hr : meth.sig.returnType = (some .int)) (hk9 : meth.locks = false) : ∀ (n9 : Nat) (x1 : Int32) (x2 : Int32) (x3 : Int32) (x4 : Int32) (σ : Sg), f_SH_prizesTogether_5 n9 x1 x2 x3 x4 σ = some (r, σ') → G Γ p l e (z_rm 3 63) s m args below meth c 0 0 (MQ below (Qx Γ (some (.int r)) σ') args s 0 0 (fun q : Nat => Γ.2.2.2 ≤ q)) 5 5 [(0, .ref (Γ.2.2.1 0)), (1, .int x1), (2, .int x2), (3, .int x3), (4, .int x4)] [] σ := by
  intro n9
  induction n9 with
  | zero => intro x1 x2 x3 x4 σ hf; cases hf
  | succ n9 ih =>
    intro x1 x2 x3 x4 σ hf
    rw [f_SH_prizesTogether_5] at hf
    refine g_iload X d_SH_prizesTogether_5 4 rfl ?_
    refine g_iload_n X d_SH_prizesTogether_7 2 rfl ?_
    refine g_ic_ge X d_SH_prizesTogether_8 35 (by decide) (fun q1 => ?_) (fun q1 => ?_)
    · have hf := ite_t q1 hf
      refine g_iload_n X d_SH_prizesTogether_35 3 rfl ?_
      exact g_iret X d_SH_prizesTogether_36 hr hk9 hf
    · have hf := ite_f q1 hf
      refine g_iload X d_SH_prizesTogether_11 4 rfl ?_
      refine g_bipush X d_SH_prizesTogether_13 (v := (nI 20)) rfl ?_
      refine g_ic_ge X d_SH_prizesTogether_15 35 (by decide) (fun q2 => ?_) (fun q2 => ?_)
      · have hf := ite_t q2 hf
        refine g_iload_n X d_SH_prizesTogether_35 3 rfl ?_
        exact g_iret X d_SH_prizesTogether_36 hr hk9 hf
      · have hf := ite_f q2 hf
        refine g_iload_n X d_SH_prizesTogether_18 3 rfl ?_
        refine g_aload_n X d_SH_prizesTogether_19 0 rfl ?_
        refine g_iload_n X d_SH_prizesTogether_20 1 rfl ?_
        refine g_iload X d_SH_prizesTogether_21 4 rfl ?_
        refine g_iadd X d_SH_prizesTogether_23 ?_
        obtain ⟨r3, σ4, er3, hf⟩ := bd_some hf
        refine ca_ST_prizeGivenAt X d_SH_prizesTogether_24 wl_SH_63 ⟨Nat.le_of_ble_eq_true rfl, Nat.le_of_ble_eq_true rfl⟩ (sum8 rfl) er3 ?_
        refine g_iadd X d_SH_prizesTogether_27 ?_
        obtain ⟨v5, ev5, hf⟩ := lt_ex hf
        refine g_top ev5 ?_
        refine g_istore_n X d_SH_prizesTogether_28 rfl (lv' := [(3, .int v5), (0, .ref (Γ.2.2.1 0)), (1, .int x1), (2, .int x2), (4, .int x4)]) (Nat.le_of_ble_eq_true rfl) rfl ?_
        refine g_iinc X d_SH_prizesTogether_29 (j := 4) (lv' := [(4, .int (x4 + (nI 1))), (3, .int v5), (0, .ref (Γ.2.2.1 0)), (1, .int x1), (2, .int x2)]) rfl rfl (Nat.le_of_ble_eq_true rfl) rfl ?_
        refine g_goto X d_SH_prizesTogether_32 5 (by decide) ?_
        refine g_sub [2, 3, 4, 1, 0] rfl ?_
        exact ih _ _ _ _ _ hf
set_option maxRecDepth 10000 in
theorem c_SH_prizesTogether' {Γ : Gm} {l : Launch} {x1 : Int32} {x2 : Int32} {σ σ' : Sg} {r : Int32} (hf : f_SH_prizesTogether x1 x2 σ = some (r, σ')) : Ctr Γ l y_SH_prizesTogether c_SH_prizesTogether 5 (some .int) 3 63 [.ref (Γ.2.2.1 0), .int x1, .int x2] σ σ' (some (.int r)) := by
  refine Ctr.of (lv := [(0, .ref (Γ.2.2.1 0)), (1, .int x1), (2, .int x2)]) (by decide +kernel) (Nat.le_of_ble_eq_true rfl) rfl ?_
  intro p e s m args below meth c X hr hk9
  have X : Cx Γ p (z_rm 3 63) s m args c c_SH_prizesTogether 5 "CaptionTallies$Shares" 0 0 := X
  rw [f_SH_prizesTogether] at hf
  refine g_iconst X d_SH_prizesTogether_0 (v := (nI 0)) rfl ?_
  refine g_istore_n X d_SH_prizesTogether_1 rfl (lv' := [(3, .int (nI 0)), (0, .ref (Γ.2.2.1 0)), (1, .int x1), (2, .int x2)]) (Nat.le_of_ble_eq_true rfl) rfl ?_
  refine g_iconst X d_SH_prizesTogether_2 (v := (nI 0)) rfl ?_
  refine g_istore X d_SH_prizesTogether_3 (lv' := [(4, .int (nI 0)), (3, .int (nI 0)), (0, .ref (Γ.2.2.1 0)), (1, .int x1), (2, .int x2)]) (Nat.le_of_ble_eq_true rfl) rfl ?_
  refine g_sub [2, 3, 4, 1, 0] rfl ?_
  exact w_SH_prizesTogether_5 X hr hk9 _ _ _ _ _ _ hf
section
variable {R : Room} {kc ks : Nat} {Q : State → Prop} {nL : Nat} {cc : ByteArray} {own : String} {pc : Nat} {lv lv' : List (Nat × Value)} {st : List Value}
theorem ca_SH_prizesTogether {x1 : Int32} {x2 : Int32} (X : Cx Γ p R s m args c cc nL own kc ks) {idx : Nat} (hd : decode cc pc = .ok (.invokestatic idx, 3)) (hlk : Cond.methodLink own idx y_SH_prizesTogether ∈ lw_gt) (hR : 3 + 1 ≤ R.frames ∧ 8 + (5 + 11) + 63 ≤ R.locals) (hw : (st.map fun v => v.category).sum ≤ 8) {σ σ' : Sg} {r : Int32} (hf : f_SH_prizesTogether x1 x2 σ = some (r, σ')) (k : G Γ p l e R s m args below meth c kc ks Q nL (pc + 3) lv (.int r :: st) σ') : G Γ p l e R s m args below meth c kc ks Q nL pc lv (.int x2 :: .int x1 :: .ref (Γ.2.2.1 0) :: st) σ :=
  g_callS (As := [.ref (Γ.2.2.1 0), .int x1, .int x2]) (rest := st) X hd (c_SH_prizesTogether' hf) co_SH_prizesTogether hlk wn_SH_prizesTogether hR rfl rfl hw k
theorem can_SH_prizesTogether {x1 : Int32} {x2 : Int32} (X : Cx Γ p R s m args c cc nL own kc ks) {idx : Nat} (hd : decode cc pc = .ok (.invokestatic idx, 3)) (hlk : (own, idx, y_SH_prizesTogether) ∈ z_nests) (hR : 3 + 1 ≤ R.frames ∧ 8 + (5 + 11) + 63 ≤ R.locals) (hw : (st.map fun v => v.category).sum ≤ 8) {σ σ' : Sg} {r : Int32} (hf : f_SH_prizesTogether x1 x2 σ = some (r, σ')) (k : G Γ p l e R s m args below meth c kc ks Q nL (pc + 3) lv (.int r :: st) σ') : G Γ p l e R s m args below meth c kc ks Q nL pc lv (.int x2 :: .int x1 :: .ref (Γ.2.2.1 0) :: st) σ :=
  g_callSN (As := [.ref (Γ.2.2.1 0), .int x1, .int x2]) (rest := st) X hd (c_SH_prizesTogether' hf) co_SH_prizesTogether hlk wn_SH_prizesTogether hR rfl rfl hw k
end
set_option maxRecDepth 10000 in
theorem w_SH_fill_88 {r : Int32} {σ' : Sg} (X : Cx Γ p (z_rm 4 87) s m args c c_SH_fill 7 "CaptionTallies$Shares" 0 0) (hr : meth.sig.returnType = none) (hk9 : meth.locks = false) : ∀ (n9 : Nat) (x4 : Int32) (σ : Sg), f_SH_fill_88 n9 x4 σ = some (r, σ') → G Γ p l e (z_rm 4 87) s m args below meth c 0 0 (MQ below (Qx Γ none σ') args s 0 0 (fun q : Nat => Γ.2.2.2 ≤ q)) 7 88 [(0, .ref (Γ.2.2.1 105)), (2, .ref (Γ.2.2.1 82)), (4, .int x4)] [] σ := by
  intro n9
  induction n9 with
  | zero => intro x4 σ hf; cases hf
  | succ n9 ih =>
    intro x4 σ hf
    rw [f_SH_fill_88] at hf
    refine g_iload X d_SH_fill_88 2 rfl ?_
    refine g_bipush X d_SH_fill_90 (v := (nI 20)) rfl ?_
    refine g_ic_ge X d_SH_fill_92 150 (by decide) (fun q1 => ?_) (fun q1 => ?_)
    · have hf := ite_t q1 hf
      exact g_vret X d_SH_fill_150 hr hk9 hf
    · have hf := ite_f q1 hf
      refine g_aload_n X d_SH_fill_95 1 rfl ?_
      refine g_iload X d_SH_fill_96 2 rfl ?_
      obtain ⟨r2, σ3, er2, hf⟩ := bd_some hf
      refine ca_GR_headOf X d_SH_fill_98 wl_SH_51 ⟨Nat.le_of_ble_eq_true rfl, Nat.le_of_ble_eq_true rfl⟩ (sum8 rfl) er2 ?_
      refine g_istore X d_SH_fill_101 (lv' := [(5, .int r2), (0, .ref (Γ.2.2.1 105)), (2, .ref (Γ.2.2.1 82)), (4, .int x4)]) (Nat.le_of_ble_eq_true rfl) rfl ?_
      refine g_iload X d_SH_fill_103 0 rfl ?_
      refine g_bipush X d_SH_fill_105 (v := (-5)) rfl ?_
      refine g_ic_eq X d_SH_fill_107 144 (by decide) (fun q4 => ?_) (fun q4 => ?_)
      · have hf := ite_t q4 hf
        refine g_iinc X d_SH_fill_144 (j := 3) (lv' := [(4, .int (x4 + (nI 1))), (5, .int r2), (0, .ref (Γ.2.2.1 105)), (2, .ref (Γ.2.2.1 82))]) rfl rfl (Nat.le_of_ble_eq_true rfl) rfl ?_
        refine g_goto X d_SH_fill_147 88 (by decide) ?_
        refine g_sub [2, 3, 0] rfl ?_
        exact ih _ _ hf
      · have hf := ite_f q4 hf
        refine g_aload_n X d_SH_fill_110 2 rfl ?_
        refine g_iload X d_SH_fill_111 0 rfl ?_
        refine g_iload X d_SH_fill_113 3 rfl ?_
        obtain ⟨r5, σ6, er5, hf⟩ := bd_some hf
        refine ca_GR_membersBelow X d_SH_fill_115 wl_SH_54 ⟨Nat.le_of_ble_eq_true rfl, Nat.le_of_ble_eq_true rfl⟩ (sum8 rfl) er5 ?_
        refine g_istore X d_SH_fill_118 (lv' := [(6, .int r5), (5, .int r2), (0, .ref (Γ.2.2.1 105)), (2, .ref (Γ.2.2.1 82)), (4, .int x4)]) (Nat.le_of_ble_eq_true rfl) rfl ?_
        refine g_aload_n X d_SH_fill_120 2 rfl ?_
        refine gf_105_1 X d_SH_fill_121 wl_SH_15 ?_
        refine g_iload X d_SH_fill_124 4 rfl ?_
        refine g_aload_n X d_SH_fill_126 2 rfl ?_
        refine g_iload X d_SH_fill_127 1 rfl ?_
        obtain ⟨r7, σ8, er7, hf⟩ := bd_some hf
        refine ca_SH_ofGroup X d_SH_fill_129 wl_SH_57 ⟨Nat.le_of_ble_eq_true rfl, Nat.le_of_ble_eq_true rfl⟩ (sum8 rfl) er7 ?_
        refine g_aload_n X d_SH_fill_132 3 rfl ?_
        refine g_iload X d_SH_fill_133 1 rfl ?_
        obtain ⟨r9, σ10, er9, hf⟩ := bd_some hf
        refine ca_GR_sizeOf X d_SH_fill_135 wl_SH_60 ⟨Nat.le_of_ble_eq_true rfl, Nat.le_of_ble_eq_true rfl⟩ (sum8 rfl) er9 ?_
        refine g_iload X d_SH_fill_138 0 rfl ?_
        obtain ⟨r11, σ12, er11, hf⟩ := bd_some hf
        refine can_CT_portion X d_SH_fill_140 wl_SH_47 ⟨Nat.le_of_ble_eq_true rfl, Nat.le_of_ble_eq_true rfl⟩ (sum8 rfl) er11 ?_
        obtain ⟨b13, hf⟩ := gd_some hf
        obtain ⟨σ14, eσ14, hf⟩ := lt_ex hf
        refine g_iast X d_SH_fill_143 kd_107 b13 eσ14 ?_
        refine g_iinc X d_SH_fill_144 (j := 4) (lv' := [(4, .int (x4 + (nI 1))), (6, .int r5), (5, .int r2), (0, .ref (Γ.2.2.1 105)), (2, .ref (Γ.2.2.1 82))]) rfl rfl (Nat.le_of_ble_eq_true rfl) rfl ?_
        refine g_goto X d_SH_fill_147 88 (by decide) ?_
        refine g_sub [3, 4, 0] rfl ?_
        exact ih _ _ hf
set_option maxRecDepth 10000 in
theorem w_SH_fill_19 {r : Int32} {σ' : Sg} (X : Cx Γ p (z_rm 4 87) s m args c c_SH_fill 7 "CaptionTallies$Shares" 0 0) (hr : meth.sig.returnType = none) (hk9 : meth.locks = false) : ∀ (n9 : Nat) (x4 : Int32) (σ : Sg), f_SH_fill_19 n9 x4 σ = some (r, σ') → G Γ p l e (z_rm 4 87) s m args below meth c 0 0 (MQ below (Qx Γ none σ') args s 0 0 (fun q : Nat => Γ.2.2.2 ≤ q)) 7 19 [(0, .ref (Γ.2.2.1 105)), (1, .ref (Γ.2.2.1 0)), (2, .ref (Γ.2.2.1 82)), (3, .ref (Γ.2.2.1 100)), (4, .int x4)] [] σ := by
  intro n9
  induction n9 with
  | zero => intro x4 σ hf; cases hf
  | succ n9 ih =>
    intro x4 σ hf
    rw [f_SH_fill_19] at hf
    refine g_iload X d_SH_fill_19 4 rfl ?_
    refine g_bipush X d_SH_fill_21 (v := (nI 20)) rfl ?_
    refine g_ic_ge X d_SH_fill_23 85 (by decide) (fun q1 => ?_) (fun q1 => ?_)
    · have hf := ite_t q1 hf
      refine g_iconst X d_SH_fill_85 (v := (nI 0)) rfl ?_
      refine g_istore X d_SH_fill_86 (lv' := [(4, .int (nI 0)), (0, .ref (Γ.2.2.1 105)), (1, .ref (Γ.2.2.1 0)), (2, .ref (Γ.2.2.1 82)), (3, .ref (Γ.2.2.1 100))]) (Nat.le_of_ble_eq_true rfl) rfl ?_
      refine g_sub [1, 3, 0] rfl ?_
      exact w_SH_fill_88 X hr hk9 _ _ _ hf
    · have hf := ite_f q1 hf
      refine g_aload_n X d_SH_fill_26 2 rfl ?_
      refine g_iload X d_SH_fill_27 4 rfl ?_
      obtain ⟨r2, σ3, er2, hf⟩ := bd_some hf
      refine ca_GR_isHead X d_SH_fill_29 wl_SH_24 ⟨Nat.le_of_ble_eq_true rfl, Nat.le_of_ble_eq_true rfl⟩ (sum8 rfl) er2 ?_
      refine g_if_eq X d_SH_fill_32 79 (by decide) (fun q4 => ?_) (fun q4 => ?_)
      · have hf := ite_t q4 hf
        refine g_iinc X d_SH_fill_79 (j := 4) (lv' := [(4, .int (x4 + (nI 1))), (0, .ref (Γ.2.2.1 105)), (1, .ref (Γ.2.2.1 0)), (2, .ref (Γ.2.2.1 82)), (3, .ref (Γ.2.2.1 100))]) rfl rfl (Nat.le_of_ble_eq_true rfl) rfl ?_
        refine g_goto X d_SH_fill_82 19 (by decide) ?_
        refine g_sub [1, 2, 3, 4, 0] rfl ?_
        exact ih _ _ hf
      · have hf := ite_f q4 hf
        refine g_aload_n X d_SH_fill_35 1 rfl ?_
        refine g_aload_n X d_SH_fill_36 3 rfl ?_
        refine g_iload X d_SH_fill_37 4 rfl ?_
        obtain ⟨r5, σ6, er5, hf⟩ := bd_some hf
        refine ca_OR_placeOf X d_SH_fill_39 wl_SH_30 ⟨Nat.le_of_ble_eq_true rfl, Nat.le_of_ble_eq_true rfl⟩ (sum8 rfl) er5 ?_
        refine g_aload_n X d_SH_fill_42 3 rfl ?_
        refine g_iload X d_SH_fill_43 4 rfl ?_
        obtain ⟨r7, σ8, er7, hf⟩ := bd_some hf
        refine ca_OR_tiedWith X d_SH_fill_45 wl_SH_36 ⟨Nat.le_of_ble_eq_true rfl, Nat.le_of_ble_eq_true rfl⟩ (sum8 rfl) er7 ?_
        obtain ⟨r9, σ10, er9, hf⟩ := bd_some hf
        refine ca_SH_prizesTogether X d_SH_fill_48 wl_SH_39 ⟨Nat.le_of_ble_eq_true rfl, Nat.le_of_ble_eq_true rfl⟩ (sum8 rfl) er9 ?_
        refine g_istore X d_SH_fill_51 (lv' := [(5, .int r9), (0, .ref (Γ.2.2.1 105)), (1, .ref (Γ.2.2.1 0)), (2, .ref (Γ.2.2.1 82)), (3, .ref (Γ.2.2.1 100)), (4, .int x4)]) (Nat.le_of_ble_eq_true rfl) rfl ?_
        refine g_aload_n X d_SH_fill_53 1 rfl ?_
        refine gf_105_0 X d_SH_fill_54 wl_SH_9 ?_
        refine g_iload X d_SH_fill_57 5 rfl ?_
        refine g_iload X d_SH_fill_59 0 rfl ?_
        refine g_aload_n X d_SH_fill_61 4 rfl ?_
        refine g_iload X d_SH_fill_62 5 rfl ?_
        obtain ⟨r11, σ12, er11, hf⟩ := bd_some hf
        refine ca_OR_tiedWith X d_SH_fill_64 wl_SH_36 ⟨Nat.le_of_ble_eq_true rfl, Nat.le_of_ble_eq_true rfl⟩ (sum8 rfl) er11 ?_
        refine g_aload_n X d_SH_fill_67 4 rfl ?_
        refine g_iload X d_SH_fill_68 5 rfl ?_
        refine g_iload X d_SH_fill_70 5 rfl ?_
        obtain ⟨r13, σ14, er13, hf⟩ := bd_some hf
        refine ca_OR_tiedBelow X d_SH_fill_72 wl_SH_43 ⟨Nat.le_of_ble_eq_true rfl, Nat.le_of_ble_eq_true rfl⟩ (sum8 rfl) er13 ?_
        obtain ⟨r15, σ16, er15, hf⟩ := bd_some hf
        refine can_CT_portion X d_SH_fill_75 wl_SH_47 ⟨Nat.le_of_ble_eq_true rfl, Nat.le_of_ble_eq_true rfl⟩ (sum8 rfl) er15 ?_
        obtain ⟨b17, hf⟩ := gd_some hf
        obtain ⟨σ18, eσ18, hf⟩ := lt_ex hf
        refine g_iast X d_SH_fill_78 kd_106 b17 eσ18 ?_
        refine g_iinc X d_SH_fill_79 (j := 5) (lv' := [(4, .int (x4 + (nI 1))), (5, .int r9), (0, .ref (Γ.2.2.1 105)), (1, .ref (Γ.2.2.1 0)), (2, .ref (Γ.2.2.1 82)), (3, .ref (Γ.2.2.1 100))]) rfl rfl (Nat.le_of_ble_eq_true rfl) rfl ?_
        refine g_goto X d_SH_fill_82 19 (by decide) ?_
        refine g_sub [2, 3, 4, 5, 0] rfl ?_
        exact ih _ _ hf
set_option maxRecDepth 10000 in
theorem c_SH_fill' {Γ : Gm} {l : Launch} {σ σ' : Sg} {r : Int32} (hf : f_SH_fill σ = some (r, σ')) : Ctr Γ l y_SH_fill c_SH_fill 7 none 4 87 [.ref (Γ.2.2.1 105), .ref (Γ.2.2.1 0), .ref (Γ.2.2.1 82), .ref (Γ.2.2.1 100)] σ σ' none := by
  refine Ctr.of (lv := [(0, .ref (Γ.2.2.1 105)), (1, .ref (Γ.2.2.1 0)), (2, .ref (Γ.2.2.1 82)), (3, .ref (Γ.2.2.1 100))]) (by decide +kernel) (Nat.le_of_ble_eq_true rfl) rfl ?_
  intro p e s m args below meth c X hr hk9
  have X : Cx Γ p (z_rm 4 87) s m args c c_SH_fill 7 "CaptionTallies$Shares" 0 0 := X
  rw [f_SH_fill] at hf
  refine g_aload_n X d_SH_fill_0 0 rfl ?_
  refine gf_105_0 X d_SH_fill_1 wl_SH_9 ?_
  refine g_iconst X d_SH_fill_4 (v := (nI 0)) rfl ?_
  obtain ⟨r1, σ2, er1, hf⟩ := bd_some hf
  refine ca_AR_fill X d_SH_fill_5 wl_SH_18 ⟨Nat.le_of_ble_eq_true rfl, Nat.le_of_ble_eq_true rfl⟩ (sum8 rfl) kd_106 er1 ?_
  refine g_aload_n X d_SH_fill_8 0 rfl ?_
  refine gf_105_1 X d_SH_fill_9 wl_SH_15 ?_
  refine g_iconst X d_SH_fill_12 (v := (nI 0)) rfl ?_
  obtain ⟨r3, σ4, er3, hf⟩ := bd_some hf
  refine ca_AR_fill X d_SH_fill_13 wl_SH_18 ⟨Nat.le_of_ble_eq_true rfl, Nat.le_of_ble_eq_true rfl⟩ (sum8 rfl) kd_107 er3 ?_
  refine g_iconst X d_SH_fill_16 (v := (nI 0)) rfl ?_
  refine g_istore X d_SH_fill_17 (lv' := [(4, .int (nI 0)), (0, .ref (Γ.2.2.1 105)), (1, .ref (Γ.2.2.1 0)), (2, .ref (Γ.2.2.1 82)), (3, .ref (Γ.2.2.1 100))]) (Nat.le_of_ble_eq_true rfl) rfl ?_
  refine g_sub [1, 2, 3, 4, 0] rfl ?_
  exact w_SH_fill_19 X hr hk9 _ _ _ hf
section
variable {R : Room} {kc ks : Nat} {Q : State → Prop} {nL : Nat} {cc : ByteArray} {own : String} {pc : Nat} {lv lv' : List (Nat × Value)} {st : List Value}
theorem ca_SH_fill (X : Cx Γ p R s m args c cc nL own kc ks) {idx : Nat} (hd : decode cc pc = .ok (.invokevirtual idx, 3)) (hlk : Cond.methodLink own idx y_SH_fill ∈ lw_gt) (hR : 4 + 1 ≤ R.frames ∧ 8 + (7 + 11) + 87 ≤ R.locals) (hw : (st.map fun v => v.category).sum ≤ 8) {σ σ' : Sg} {r : Int32} (hf : f_SH_fill σ = some (r, σ')) (k : G Γ p l e R s m args below meth c kc ks Q nL (pc + 3) lv (st) σ') : G Γ p l e R s m args below meth c kc ks Q nL pc lv (.ref (Γ.2.2.1 100) :: .ref (Γ.2.2.1 82) :: .ref (Γ.2.2.1 0) :: .ref (Γ.2.2.1 105) :: st) σ :=
  g_callV (As := [.ref (Γ.2.2.1 0), .ref (Γ.2.2.1 82), .ref (Γ.2.2.1 100)]) (rest := st) X hd (c_SH_fill' hf) co_SH_fill hlk wn_SH_fill wse_SH_fill (by decide) kd_105 rfl hR rfl rfl hw k
end
set_option maxRecDepth 10000 in
theorem c_CT_tally' {Γ : Gm} {l : Launch} {σ σ' : Sg} {r : Int32} (hf : f_CT_tally σ = some (r, σ')) : Ctr Γ l y_CT_tally c_CT_tally 1 none 5 117 [.ref (Γ.2.2.1 111)] σ σ' none := by
  refine Ctr.of (lv := [(0, .ref (Γ.2.2.1 111))]) (by decide +kernel) (Nat.le_of_ble_eq_true rfl) rfl ?_
  intro p e s m args below meth c X hr hk9
  have X : Cx Γ p (z_rm 5 117) s m args c c_CT_tally 1 "CaptionTallies" 0 0 := X
  rw [f_CT_tally] at hf
  refine g_aload_n X d_CT_tally_0 0 rfl ?_
  refine gf_111_5 X d_CT_tally_1 wl_CT_40 ?_
  refine g_aload_n X d_CT_tally_4 0 rfl ?_
  refine gf_111_1 X d_CT_tally_5 wl_CT_19 ?_
  obtain ⟨r1, σ2, er1, hf⟩ := bd_some hf
  refine ca_GR_find X d_CT_tally_8 wl_CT_116 ⟨Nat.le_of_ble_eq_true rfl, Nat.le_of_ble_eq_true rfl⟩ (sum8 rfl) er1 ?_
  refine g_aload_n X d_CT_tally_11 0 rfl ?_
  refine gf_111_6 X d_CT_tally_12 wl_CT_47 ?_
  refine g_aload_n X d_CT_tally_15 0 rfl ?_
  refine gf_111_1 X d_CT_tally_16 wl_CT_19 ?_
  refine g_aload_n X d_CT_tally_19 0 rfl ?_
  refine gf_111_5 X d_CT_tally_20 wl_CT_40 ?_
  obtain ⟨r3, σ4, er3, hf⟩ := bd_some hf
  refine ca_CO_fill X d_CT_tally_23 wl_CT_255 ⟨Nat.le_of_ble_eq_true rfl, Nat.le_of_ble_eq_true rfl⟩ (sum8 rfl) er3 ?_
  refine g_aload_n X d_CT_tally_26 0 rfl ?_
  refine gf_111_7 X d_CT_tally_27 wl_CT_54 ?_
  refine g_aload_n X d_CT_tally_30 0 rfl ?_
  refine gf_111_1 X d_CT_tally_31 wl_CT_19 ?_
  refine g_aload_n X d_CT_tally_34 0 rfl ?_
  refine gf_111_5 X d_CT_tally_35 wl_CT_40 ?_
  obtain ⟨r5, σ6, er5, hf⟩ := bd_some hf
  refine ca_RA_fill X d_CT_tally_38 wl_CT_162 ⟨Nat.le_of_ble_eq_true rfl, Nat.le_of_ble_eq_true rfl⟩ (sum8 rfl) er5 ?_
  refine g_aload_n X d_CT_tally_41 0 rfl ?_
  refine gf_111_8 X d_CT_tally_42 wl_CT_61 ?_
  refine g_aload_n X d_CT_tally_45 0 rfl ?_
  refine gf_111_1 X d_CT_tally_46 wl_CT_19 ?_
  refine g_aload_n X d_CT_tally_49 0 rfl ?_
  refine gf_111_5 X d_CT_tally_50 wl_CT_40 ?_
  refine g_aload_n X d_CT_tally_53 0 rfl ?_
  refine gf_111_7 X d_CT_tally_54 wl_CT_54 ?_
  obtain ⟨r7, σ8, er7, hf⟩ := bd_some hf
  refine ca_RO_play X d_CT_tally_57 wl_CT_308 ⟨Nat.le_of_ble_eq_true rfl, Nat.le_of_ble_eq_true rfl⟩ (sum8 rfl) er7 ?_
  refine g_aload_n X d_CT_tally_60 0 rfl ?_
  obtain ⟨r9, σ10, er9, hf⟩ := bd_some hf
  refine ca_CT_fillKeys X d_CT_tally_61 wl_CT_312 ⟨Nat.le_of_ble_eq_true rfl, Nat.le_of_ble_eq_true rfl⟩ (sum8 rfl) er9 ?_
  refine g_aload_n X d_CT_tally_64 0 rfl ?_
  refine gf_111_9 X d_CT_tally_65 wl_CT_68 ?_
  obtain ⟨r11, σ12, er11, hf⟩ := bd_some hf
  refine ca_OR_fill X d_CT_tally_68 wl_CT_315 ⟨Nat.le_of_ble_eq_true rfl, Nat.le_of_ble_eq_true rfl⟩ (sum8 rfl) er11 ?_
  refine g_aload_n X d_CT_tally_71 0 rfl ?_
  refine gf_111_10 X d_CT_tally_72 wl_CT_75 ?_
  refine g_aload_n X d_CT_tally_75 0 rfl ?_
  refine gf_111_1 X d_CT_tally_76 wl_CT_19 ?_
  refine g_aload_n X d_CT_tally_79 0 rfl ?_
  refine gf_111_5 X d_CT_tally_80 wl_CT_40 ?_
  refine g_aload_n X d_CT_tally_83 0 rfl ?_
  refine gf_111_9 X d_CT_tally_84 wl_CT_68 ?_
  obtain ⟨r13, σ14, er13, hf⟩ := bd_some hf
  refine ca_SH_fill X d_CT_tally_87 wl_CT_317 ⟨Nat.le_of_ble_eq_true rfl, Nat.le_of_ble_eq_true rfl⟩ (sum8 rfl) er13 ?_
  exact g_vret X d_CT_tally_90 hr hk9 hf
section
variable {R : Room} {kc ks : Nat} {Q : State → Prop} {nL : Nat} {cc : ByteArray} {own : String} {pc : Nat} {lv lv' : List (Nat × Value)} {st : List Value}
theorem ca_CT_tally (X : Cx Γ p R s m args c cc nL own kc ks) {idx : Nat} (hd : decode cc pc = .ok (.invokevirtual idx, 3)) (hlk : Cond.methodLink own idx y_CT_tally ∈ lw_gt) (hR : 5 + 1 ≤ R.frames ∧ 8 + (1 + 11) + 117 ≤ R.locals) (hw : (st.map fun v => v.category).sum ≤ 8) {σ σ' : Sg} {r : Int32} (hf : f_CT_tally σ = some (r, σ')) (k : G Γ p l e R s m args below meth c kc ks Q nL (pc + 3) lv (st) σ') : G Γ p l e R s m args below meth c kc ks Q nL pc lv (.ref (Γ.2.2.1 111) :: st) σ :=
  g_callV (As := []) (rest := st) X hd (c_CT_tally' hf) co_CT_tally hlk wn_CT_tally wse_CT_tally (by decide) kd_111 rfl hR rfl rfl hw k
end
set_option maxRecDepth 10000 in
theorem c_SH_ofCaption' {Γ : Gm} {l : Launch} {x1 : Int32} {σ σ' : Sg} {r : Int32} (hf : f_SH_ofCaption x1 σ = some (r, σ')) : Ctr Γ l y_SH_ofCaption c_SH_ofCaption 2 (some .int) 1 21 [.ref (Γ.2.2.1 105), .int x1] σ σ' (some (.int r)) := by
  refine Ctr.of (lv := [(0, .ref (Γ.2.2.1 105)), (1, .int x1)]) (by decide +kernel) (Nat.le_of_ble_eq_true rfl) rfl ?_
  intro p e s m args below meth c X hr hk9
  have X : Cx Γ p (z_rm 1 21) s m args c c_SH_ofCaption 2 "CaptionTallies$Shares" 0 0 := X
  rw [f_SH_ofCaption] at hf
  refine g_aload_n X d_SH_ofCaption_0 0 rfl ?_
  refine gf_105_1 X d_SH_ofCaption_1 wl_SH_15 ?_
  refine g_iload_n X d_SH_ofCaption_4 1 rfl ?_
  obtain ⟨r1, σ2, er1, hf⟩ := bd_some hf
  refine can_CT_at X d_SH_ofCaption_5 wl_SH_68 ⟨Nat.le_of_ble_eq_true rfl, Nat.le_of_ble_eq_true rfl⟩ (sum8 rfl) kd_107 er1 ?_
  exact g_iret X d_SH_ofCaption_8 hr hk9 hf
section
variable {R : Room} {kc ks : Nat} {Q : State → Prop} {nL : Nat} {cc : ByteArray} {own : String} {pc : Nat} {lv lv' : List (Nat × Value)} {st : List Value}
theorem ca_SH_ofCaption {x1 : Int32} (X : Cx Γ p R s m args c cc nL own kc ks) {idx : Nat} (hd : decode cc pc = .ok (.invokevirtual idx, 3)) (hlk : Cond.methodLink own idx y_SH_ofCaption ∈ lw_gt) (hR : 1 + 1 ≤ R.frames ∧ 8 + (2 + 11) + 21 ≤ R.locals) (hw : (st.map fun v => v.category).sum ≤ 8) {σ σ' : Sg} {r : Int32} (hf : f_SH_ofCaption x1 σ = some (r, σ')) (k : G Γ p l e R s m args below meth c kc ks Q nL (pc + 3) lv (.int r :: st) σ') : G Γ p l e R s m args below meth c kc ks Q nL pc lv (.int x1 :: .ref (Γ.2.2.1 105) :: st) σ :=
  g_callV (As := [.int x1]) (rest := st) X hd (c_SH_ofCaption' hf) co_SH_ofCaption hlk wn_SH_ofCaption wse_SH_ofCaption (by decide) kd_105 rfl hR rfl rfl hw k
end
set_option maxRecDepth 10000 in
theorem c_ST_authorOf' {Γ : Gm} {l : Launch} {x1 : Int32} {σ σ' : Sg} {r : Int32} (hf : f_ST_authorOf x1 σ = some (r, σ')) : Ctr Γ l y_ST_authorOf c_ST_authorOf 2 (some .int) 1 21 [.ref (Γ.2.2.1 0), .int x1] σ σ' (some (.int r)) := by
  refine Ctr.of (lv := [(0, .ref (Γ.2.2.1 0)), (1, .int x1)]) (by decide +kernel) (Nat.le_of_ble_eq_true rfl) rfl ?_
  intro p e s m args below meth c X hr hk9
  have X : Cx Γ p (z_rm 1 21) s m args c c_ST_authorOf 2 "CaptionTallies$State" 0 0 := X
  rw [f_ST_authorOf] at hf
  refine g_aload_n X d_ST_authorOf_0 0 rfl ?_
  refine gf_0_2 X d_ST_authorOf_1 wl_ST_19 ?_
  refine g_iload_n X d_ST_authorOf_4 1 rfl ?_
  obtain ⟨r1, σ2, er1, hf⟩ := bd_some hf
  refine can_CT_at X d_ST_authorOf_5 wl_ST_117 ⟨Nat.le_of_ble_eq_true rfl, Nat.le_of_ble_eq_true rfl⟩ (sum8 rfl) kd_2 er1 ?_
  exact g_iret X d_ST_authorOf_8 hr hk9 hf
section
variable {R : Room} {kc ks : Nat} {Q : State → Prop} {nL : Nat} {cc : ByteArray} {own : String} {pc : Nat} {lv lv' : List (Nat × Value)} {st : List Value}
theorem ca_ST_authorOf {x1 : Int32} (X : Cx Γ p R s m args c cc nL own kc ks) {idx : Nat} (hd : decode cc pc = .ok (.invokevirtual idx, 3)) (hlk : Cond.methodLink own idx y_ST_authorOf ∈ lw_gt) (hR : 1 + 1 ≤ R.frames ∧ 8 + (2 + 11) + 21 ≤ R.locals) (hw : (st.map fun v => v.category).sum ≤ 8) {σ σ' : Sg} {r : Int32} (hf : f_ST_authorOf x1 σ = some (r, σ')) (k : G Γ p l e R s m args below meth c kc ks Q nL (pc + 3) lv (.int r :: st) σ') : G Γ p l e R s m args below meth c kc ks Q nL pc lv (.int x1 :: .ref (Γ.2.2.1 0) :: st) σ :=
  g_callV (As := [.int x1]) (rest := st) X hd (c_ST_authorOf' hf) co_ST_authorOf hlk wn_ST_authorOf wse_ST_authorOf (by decide) kd_0 rfl hR rfl rfl hw k
end
set_option maxRecDepth 10000 in
theorem w_ST_ballotsWith_4 {r : Int32} {σ' : Sg} (X : Cx Γ p (z_rm 2 43) s m args c c_ST_ballotsWith 4 "CaptionTallies$State" 0 0) (hr : meth.sig.returnType = (some .int)) (hk9 : meth.locks = false) : ∀ (n9 : Nat) (x1 : Int32) (x2 : Int32) (x3 : Int32) (σ : Sg), f_ST_ballotsWith_4 n9 x1 x2 x3 σ = some (r, σ') → G Γ p l e (z_rm 2 43) s m args below meth c 0 0 (MQ below (Qx Γ (some (.int r)) σ') args s 0 0 (fun q : Nat => Γ.2.2.2 ≤ q)) 4 4 [(0, .ref (Γ.2.2.1 0)), (1, .int x1), (2, .int x2), (3, .int x3)] [] σ := by
  intro n9
  induction n9 with
  | zero => intro x1 x2 x3 σ hf; cases hf
  | succ n9 ih =>
    intro x1 x2 x3 σ hf
    rw [f_ST_ballotsWith_4] at hf
    refine g_iload_n X d_ST_ballotsWith_4 3 rfl ?_
    refine g_bipush X d_ST_ballotsWith_5 (v := (nI 12)) rfl ?_
    refine g_ic_ge X d_ST_ballotsWith_7 49 (by decide) (fun q1 => ?_) (fun q1 => ?_)
    · have hf := ite_t q1 hf
      refine g_iload_n X d_ST_ballotsWith_49 2 rfl ?_
      exact g_iret X d_ST_ballotsWith_50 hr hk9 hf
    · have hf := ite_f q1 hf
      refine g_aload_n X d_ST_ballotsWith_10 0 rfl ?_
      refine g_iload_n X d_ST_ballotsWith_11 3 rfl ?_
      refine g_iconst X d_ST_ballotsWith_12 (v := (nI 0)) rfl ?_
      obtain ⟨r2, σ3, er2, hf⟩ := bd_some hf
      refine ca_ST_wish X d_ST_ballotsWith_13 wl_ST_131 ⟨Nat.le_of_ble_eq_true rfl, Nat.le_of_ble_eq_true rfl⟩ (sum8 rfl) er2 ?_
      refine g_iload_n X d_ST_ballotsWith_16 1 rfl ?_
      refine g_ic_eq X d_ST_ballotsWith_17 40 (by decide) (fun q4 => ?_) (fun q4 => ?_)
      · have hf := ite_t q4 hf
        refine g_iinc X d_ST_ballotsWith_40 (j := 2) (lv' := [(2, .int (x2 + (nI 1))), (0, .ref (Γ.2.2.1 0)), (1, .int x1), (3, .int x3)]) rfl rfl (Nat.le_of_ble_eq_true rfl) rfl ?_
        refine g_iinc X d_ST_ballotsWith_43 (j := 3) (lv' := [(3, .int (x3 + (nI 1))), (2, .int (x2 + (nI 1))), (0, .ref (Γ.2.2.1 0)), (1, .int x1)]) rfl rfl (Nat.le_of_ble_eq_true rfl) rfl ?_
        refine g_goto X d_ST_ballotsWith_46 4 (by decide) ?_
        refine g_sub [2, 3, 1, 0] rfl ?_
        exact ih _ _ _ _ hf
      · have hf := ite_f q4 hf
        refine g_aload_n X d_ST_ballotsWith_20 0 rfl ?_
        refine g_iload_n X d_ST_ballotsWith_21 3 rfl ?_
        refine g_iconst X d_ST_ballotsWith_22 (v := (nI 1)) rfl ?_
        obtain ⟨r5, σ6, er5, hf⟩ := bd_some hf
        refine ca_ST_wish X d_ST_ballotsWith_23 wl_ST_131 ⟨Nat.le_of_ble_eq_true rfl, Nat.le_of_ble_eq_true rfl⟩ (sum8 rfl) er5 ?_
        refine g_iload_n X d_ST_ballotsWith_26 1 rfl ?_
        refine g_ic_eq X d_ST_ballotsWith_27 40 (by decide) (fun q7 => ?_) (fun q7 => ?_)
        · have hf := ite_t q7 hf
          refine g_iinc X d_ST_ballotsWith_40 (j := 2) (lv' := [(2, .int (x2 + (nI 1))), (0, .ref (Γ.2.2.1 0)), (1, .int x1), (3, .int x3)]) rfl rfl (Nat.le_of_ble_eq_true rfl) rfl ?_
          refine g_iinc X d_ST_ballotsWith_43 (j := 3) (lv' := [(3, .int (x3 + (nI 1))), (2, .int (x2 + (nI 1))), (0, .ref (Γ.2.2.1 0)), (1, .int x1)]) rfl rfl (Nat.le_of_ble_eq_true rfl) rfl ?_
          refine g_goto X d_ST_ballotsWith_46 4 (by decide) ?_
          refine g_sub [2, 3, 1, 0] rfl ?_
          exact ih _ _ _ _ hf
        · have hf := ite_f q7 hf
          refine g_aload_n X d_ST_ballotsWith_30 0 rfl ?_
          refine g_iload_n X d_ST_ballotsWith_31 3 rfl ?_
          refine g_iconst X d_ST_ballotsWith_32 (v := (nI 2)) rfl ?_
          obtain ⟨r8, σ9, er8, hf⟩ := bd_some hf
          refine ca_ST_wish X d_ST_ballotsWith_33 wl_ST_131 ⟨Nat.le_of_ble_eq_true rfl, Nat.le_of_ble_eq_true rfl⟩ (sum8 rfl) er8 ?_
          refine g_iload_n X d_ST_ballotsWith_36 1 rfl ?_
          refine g_ic_ne X d_ST_ballotsWith_37 43 (by decide) (fun q10 => ?_) (fun q10 => ?_)
          · have hf := ite_f q10 hf
            refine g_iinc X d_ST_ballotsWith_43 (j := 3) (lv' := [(3, .int (x3 + (nI 1))), (0, .ref (Γ.2.2.1 0)), (1, .int x1), (2, .int x2)]) rfl rfl (Nat.le_of_ble_eq_true rfl) rfl ?_
            refine g_goto X d_ST_ballotsWith_46 4 (by decide) ?_
            refine g_sub [1, 2, 3, 0] rfl ?_
            exact ih _ _ _ _ hf
          · have hf := ite_t q10 hf
            refine g_iinc X d_ST_ballotsWith_40 (j := 2) (lv' := [(2, .int (x2 + (nI 1))), (0, .ref (Γ.2.2.1 0)), (1, .int x1), (3, .int x3)]) rfl rfl (Nat.le_of_ble_eq_true rfl) rfl ?_
            refine g_iinc X d_ST_ballotsWith_43 (j := 3) (lv' := [(3, .int (x3 + (nI 1))), (2, .int (x2 + (nI 1))), (0, .ref (Γ.2.2.1 0)), (1, .int x1)]) rfl rfl (Nat.le_of_ble_eq_true rfl) rfl ?_
            refine g_goto X d_ST_ballotsWith_46 4 (by decide) ?_
            refine g_sub [2, 3, 1, 0] rfl ?_
            exact ih _ _ _ _ hf
set_option maxRecDepth 10000 in
theorem c_ST_ballotsWith' {Γ : Gm} {l : Launch} {x1 : Int32} {σ σ' : Sg} {r : Int32} (hf : f_ST_ballotsWith x1 σ = some (r, σ')) : Ctr Γ l y_ST_ballotsWith c_ST_ballotsWith 4 (some .int) 2 43 [.ref (Γ.2.2.1 0), .int x1] σ σ' (some (.int r)) := by
  refine Ctr.of (lv := [(0, .ref (Γ.2.2.1 0)), (1, .int x1)]) (by decide +kernel) (Nat.le_of_ble_eq_true rfl) rfl ?_
  intro p e s m args below meth c X hr hk9
  have X : Cx Γ p (z_rm 2 43) s m args c c_ST_ballotsWith 4 "CaptionTallies$State" 0 0 := X
  rw [f_ST_ballotsWith] at hf
  refine g_iconst X d_ST_ballotsWith_0 (v := (nI 0)) rfl ?_
  refine g_istore_n X d_ST_ballotsWith_1 rfl (lv' := [(2, .int (nI 0)), (0, .ref (Γ.2.2.1 0)), (1, .int x1)]) (Nat.le_of_ble_eq_true rfl) rfl ?_
  refine g_iconst X d_ST_ballotsWith_2 (v := (nI 0)) rfl ?_
  refine g_istore_n X d_ST_ballotsWith_3 rfl (lv' := [(3, .int (nI 0)), (2, .int (nI 0)), (0, .ref (Γ.2.2.1 0)), (1, .int x1)]) (Nat.le_of_ble_eq_true rfl) rfl ?_
  refine g_sub [2, 3, 1, 0] rfl ?_
  exact w_ST_ballotsWith_4 X hr hk9 _ _ _ _ _ hf
section
variable {R : Room} {kc ks : Nat} {Q : State → Prop} {nL : Nat} {cc : ByteArray} {own : String} {pc : Nat} {lv lv' : List (Nat × Value)} {st : List Value}
theorem ca_ST_ballotsWith {x1 : Int32} (X : Cx Γ p R s m args c cc nL own kc ks) {idx : Nat} (hd : decode cc pc = .ok (.invokevirtual idx, 3)) (hlk : Cond.methodLink own idx y_ST_ballotsWith ∈ lw_gt) (hR : 2 + 1 ≤ R.frames ∧ 8 + (4 + 11) + 43 ≤ R.locals) (hw : (st.map fun v => v.category).sum ≤ 8) {σ σ' : Sg} {r : Int32} (hf : f_ST_ballotsWith x1 σ = some (r, σ')) (k : G Γ p l e R s m args below meth c kc ks Q nL (pc + 3) lv (.int r :: st) σ') : G Γ p l e R s m args below meth c kc ks Q nL pc lv (.int x1 :: .ref (Γ.2.2.1 0) :: st) σ :=
  g_callV (As := [.int x1]) (rest := st) X hd (c_ST_ballotsWith' hf) co_ST_ballotsWith hlk wn_ST_ballotsWith wse_ST_ballotsWith (by decide) kd_0 rfl hR rfl rfl hw k
end
set_option maxRecDepth 10000 in
theorem c_ST_lengthOf' {Γ : Gm} {l : Launch} {x1 : Int32} {σ σ' : Sg} {r : Int32} (hf : f_ST_lengthOf x1 σ = some (r, σ')) : Ctr Γ l y_ST_lengthOf c_ST_lengthOf 2 (some .int) 1 21 [.ref (Γ.2.2.1 0), .int x1] σ σ' (some (.int r)) := by
  refine Ctr.of (lv := [(0, .ref (Γ.2.2.1 0)), (1, .int x1)]) (by decide +kernel) (Nat.le_of_ble_eq_true rfl) rfl ?_
  intro p e s m args below meth c X hr hk9
  have X : Cx Γ p (z_rm 1 21) s m args c c_ST_lengthOf 2 "CaptionTallies$State" 0 0 := X
  rw [f_ST_lengthOf] at hf
  refine g_aload_n X d_ST_lengthOf_0 0 rfl ?_
  refine gf_0_4 X d_ST_lengthOf_1 wl_ST_26 ?_
  refine g_iload_n X d_ST_lengthOf_4 1 rfl ?_
  obtain ⟨r1, σ2, er1, hf⟩ := bd_some hf
  refine can_CT_at X d_ST_lengthOf_5 wl_ST_117 ⟨Nat.le_of_ble_eq_true rfl, Nat.le_of_ble_eq_true rfl⟩ (sum8 rfl) kd_4 er1 ?_
  exact g_iret X d_ST_lengthOf_8 hr hk9 hf
section
variable {R : Room} {kc ks : Nat} {Q : State → Prop} {nL : Nat} {cc : ByteArray} {own : String} {pc : Nat} {lv lv' : List (Nat × Value)} {st : List Value}
theorem ca_ST_lengthOf {x1 : Int32} (X : Cx Γ p R s m args c cc nL own kc ks) {idx : Nat} (hd : decode cc pc = .ok (.invokevirtual idx, 3)) (hlk : Cond.methodLink own idx y_ST_lengthOf ∈ lw_gt) (hR : 1 + 1 ≤ R.frames ∧ 8 + (2 + 11) + 21 ≤ R.locals) (hw : (st.map fun v => v.category).sum ≤ 8) {σ σ' : Sg} {r : Int32} (hf : f_ST_lengthOf x1 σ = some (r, σ')) (k : G Γ p l e R s m args below meth c kc ks Q nL (pc + 3) lv (.int r :: st) σ') : G Γ p l e R s m args below meth c kc ks Q nL pc lv (.int x1 :: .ref (Γ.2.2.1 0) :: st) σ :=
  g_callV (As := [.int x1]) (rest := st) X hd (c_ST_lengthOf' hf) co_ST_lengthOf hlk wn_ST_lengthOf wse_ST_lengthOf (by decide) kd_0 rfl hR rfl rfl hw k
end
set_option maxRecDepth 10000 in
theorem w_ST_linksInContest_4 {r : Int32} {σ' : Sg} (X : Cx Γ p (z_rm 2 43) s m args c c_ST_linksInContest 4 "CaptionTallies$State" 0 0) (hr : meth.sig.returnType = (some .int)) (hk9 : meth.locks = false) : ∀ (n9 : Nat) (x1 : Int32) (x2 : Int32) (x3 : Int32) (σ : Sg), f_ST_linksInContest_4 n9 x1 x2 x3 σ = some (r, σ') → G Γ p l e (z_rm 2 43) s m args below meth c 0 0 (MQ below (Qx Γ (some (.int r)) σ') args s 0 0 (fun q : Nat => Γ.2.2.2 ≤ q)) 4 4 [(0, .ref (Γ.2.2.1 0)), (1, .int x1), (2, .int x2), (3, .int x3)] [] σ := by
  intro n9
  induction n9 with
  | zero => intro x1 x2 x3 σ hf; cases hf
  | succ n9 ih =>
    intro x1 x2 x3 σ hf
    rw [f_ST_linksInContest_4] at hf
    refine g_iload_n X d_ST_linksInContest_4 3 rfl ?_
    refine g_bipush X d_ST_linksInContest_5 (v := (nI 20)) rfl ?_
    refine g_ic_ge X d_ST_linksInContest_7 36 (by decide) (fun q1 => ?_) (fun q1 => ?_)
    · have hf := ite_t q1 hf
      refine g_iload_n X d_ST_linksInContest_36 2 rfl ?_
      exact g_iret X d_ST_linksInContest_37 hr hk9 hf
    · have hf := ite_f q1 hf
      refine g_aload_n X d_ST_linksInContest_10 0 rfl ?_
      refine g_iload_n X d_ST_linksInContest_11 3 rfl ?_
      obtain ⟨r2, σ3, er2, hf⟩ := bd_some hf
      refine ca_ST_isIn X d_ST_linksInContest_12 wl_ST_71 ⟨Nat.le_of_ble_eq_true rfl, Nat.le_of_ble_eq_true rfl⟩ (sum8 rfl) er2 ?_
      refine g_if_eq X d_ST_linksInContest_15 30 (by decide) (fun q4 => ?_) (fun q4 => ?_)
      · have hf := ite_t q4 hf
        refine g_iinc X d_ST_linksInContest_30 (j := 3) (lv' := [(3, .int (x3 + (nI 1))), (0, .ref (Γ.2.2.1 0)), (1, .int x1), (2, .int x2)]) rfl rfl (Nat.le_of_ble_eq_true rfl) rfl ?_
        refine g_goto X d_ST_linksInContest_33 4 (by decide) ?_
        refine g_sub [1, 2, 3, 0] rfl ?_
        exact ih _ _ _ _ hf
      · have hf := ite_f q4 hf
        refine g_aload_n X d_ST_linksInContest_18 0 rfl ?_
        refine g_iload_n X d_ST_linksInContest_19 1 rfl ?_
        refine g_iload_n X d_ST_linksInContest_20 3 rfl ?_
        obtain ⟨r5, σ6, er5, hf⟩ := bd_some hf
        refine ca_ST_areLinked X d_ST_linksInContest_21 wl_ST_128 ⟨Nat.le_of_ble_eq_true rfl, Nat.le_of_ble_eq_true rfl⟩ (sum8 rfl) er5 ?_
        refine g_if_eq X d_ST_linksInContest_24 30 (by decide) (fun q7 => ?_) (fun q7 => ?_)
        · have hf := ite_t q7 hf
          refine g_iinc X d_ST_linksInContest_30 (j := 3) (lv' := [(3, .int (x3 + (nI 1))), (0, .ref (Γ.2.2.1 0)), (1, .int x1), (2, .int x2)]) rfl rfl (Nat.le_of_ble_eq_true rfl) rfl ?_
          refine g_goto X d_ST_linksInContest_33 4 (by decide) ?_
          refine g_sub [1, 2, 3, 0] rfl ?_
          exact ih _ _ _ _ hf
        · have hf := ite_f q7 hf
          refine g_iinc X d_ST_linksInContest_27 (j := 2) (lv' := [(2, .int (x2 + (nI 1))), (0, .ref (Γ.2.2.1 0)), (1, .int x1), (3, .int x3)]) rfl rfl (Nat.le_of_ble_eq_true rfl) rfl ?_
          refine g_iinc X d_ST_linksInContest_30 (j := 3) (lv' := [(3, .int (x3 + (nI 1))), (2, .int (x2 + (nI 1))), (0, .ref (Γ.2.2.1 0)), (1, .int x1)]) rfl rfl (Nat.le_of_ble_eq_true rfl) rfl ?_
          refine g_goto X d_ST_linksInContest_33 4 (by decide) ?_
          refine g_sub [2, 3, 1, 0] rfl ?_
          exact ih _ _ _ _ hf
set_option maxRecDepth 10000 in
theorem c_ST_linksInContest' {Γ : Gm} {l : Launch} {x1 : Int32} {σ σ' : Sg} {r : Int32} (hf : f_ST_linksInContest x1 σ = some (r, σ')) : Ctr Γ l y_ST_linksInContest c_ST_linksInContest 4 (some .int) 2 43 [.ref (Γ.2.2.1 0), .int x1] σ σ' (some (.int r)) := by
  refine Ctr.of (lv := [(0, .ref (Γ.2.2.1 0)), (1, .int x1)]) (by decide +kernel) (Nat.le_of_ble_eq_true rfl) rfl ?_
  intro p e s m args below meth c X hr hk9
  have X : Cx Γ p (z_rm 2 43) s m args c c_ST_linksInContest 4 "CaptionTallies$State" 0 0 := X
  rw [f_ST_linksInContest] at hf
  refine g_iconst X d_ST_linksInContest_0 (v := (nI 0)) rfl ?_
  refine g_istore_n X d_ST_linksInContest_1 rfl (lv' := [(2, .int (nI 0)), (0, .ref (Γ.2.2.1 0)), (1, .int x1)]) (Nat.le_of_ble_eq_true rfl) rfl ?_
  refine g_iconst X d_ST_linksInContest_2 (v := (nI 0)) rfl ?_
  refine g_istore_n X d_ST_linksInContest_3 rfl (lv' := [(3, .int (nI 0)), (2, .int (nI 0)), (0, .ref (Γ.2.2.1 0)), (1, .int x1)]) (Nat.le_of_ble_eq_true rfl) rfl ?_
  refine g_sub [2, 3, 1, 0] rfl ?_
  exact w_ST_linksInContest_4 X hr hk9 _ _ _ _ _ hf
section
variable {R : Room} {kc ks : Nat} {Q : State → Prop} {nL : Nat} {cc : ByteArray} {own : String} {pc : Nat} {lv lv' : List (Nat × Value)} {st : List Value}
theorem ca_ST_linksInContest {x1 : Int32} (X : Cx Γ p R s m args c cc nL own kc ks) {idx : Nat} (hd : decode cc pc = .ok (.invokevirtual idx, 3)) (hlk : Cond.methodLink own idx y_ST_linksInContest ∈ lw_gt) (hR : 2 + 1 ≤ R.frames ∧ 8 + (4 + 11) + 43 ≤ R.locals) (hw : (st.map fun v => v.category).sum ≤ 8) {σ σ' : Sg} {r : Int32} (hf : f_ST_linksInContest x1 σ = some (r, σ')) (k : G Γ p l e R s m args below meth c kc ks Q nL (pc + 3) lv (.int r :: st) σ') : G Γ p l e R s m args below meth c kc ks Q nL pc lv (.int x1 :: .ref (Γ.2.2.1 0) :: st) σ :=
  g_callV (As := [.int x1]) (rest := st) X hd (c_ST_linksInContest' hf) co_ST_linksInContest hlk wn_ST_linksInContest wse_ST_linksInContest (by decide) kd_0 rfl hR rfl rfl hw k
end
set_option maxRecDepth 10000 in
theorem c_CT_caption' {Γ : Gm} {l : Launch} {x1 : Int32} {x2 : Int32} {σ σ' : Sg} {r : Int32} (hf : f_CT_caption x1 x2 σ = some (r, σ')) : Ctr Γ l y_CT_caption c_CT_caption 3 (some .int) 6 137 [.ref (Γ.2.2.1 111), .int x1, .int x2] σ σ' (some (.int r)) := by
  refine Ctr.of (lv := [(0, .ref (Γ.2.2.1 111)), (1, .int x1), (2, .int x2)]) (by decide +kernel) (Nat.le_of_ble_eq_true rfl) rfl ?_
  intro p e s m args below meth c X hr hk9
  have X : Cx Γ p (z_rm 6 137) s m args c c_CT_caption 3 "CaptionTallies" 0 0 := X
  rw [f_CT_caption] at hf
  refine g_aload_n X d_CT_caption_0 0 rfl ?_
  refine gf_111_1 X d_CT_caption_1 wl_CT_19 ?_
  refine g_iload_n X d_CT_caption_4 1 rfl ?_
  obtain ⟨r1, σ2, er1, hf⟩ := bd_some hf
  refine ca_ST_isIn X d_CT_caption_5 wl_CT_105 ⟨Nat.le_of_ble_eq_true rfl, Nat.le_of_ble_eq_true rfl⟩ (sum8 rfl) er1 ?_
  refine g_if_ne X d_CT_caption_8 13 (by decide) (fun q3 => ?_) (fun q3 => ?_)
  · have hf := ite_f q3 hf
    refine g_iload_n X d_CT_caption_13 2 rfl ?_
    by_cases q4 : x2 = (nI 0)
    · have hf := ite_t q4 hf
      refine g_tsIn X d_CT_caption_14 56 (by rw [q4]; decide) (by rw [q4]; decide) (by rw [q4]; rfl) (by decide) ?_
      refine g_aload_n X d_CT_caption_56 0 rfl ?_
      refine gf_111_1 X d_CT_caption_57 wl_CT_19 ?_
      refine g_iload_n X d_CT_caption_60 1 rfl ?_
      obtain ⟨r5, σ6, er5, hf⟩ := bd_some hf
      refine ca_ST_authorOf X d_CT_caption_61 wl_CT_203 ⟨Nat.le_of_ble_eq_true rfl, Nat.le_of_ble_eq_true rfl⟩ (sum8 rfl) er5 ?_
      exact g_iret X d_CT_caption_64 hr hk9 hf
    have hf := ite_f q4 hf
    by_cases q7 : x2 = (nI 1)
    · have hf := ite_t q7 hf
      refine g_tsIn X d_CT_caption_14 65 (by rw [q7]; decide) (by rw [q7]; decide) (by rw [q7]; rfl) (by decide) ?_
      refine g_aload_n X d_CT_caption_65 0 rfl ?_
      refine gf_111_5 X d_CT_caption_66 wl_CT_40 ?_
      refine g_aload_n X d_CT_caption_69 0 rfl ?_
      refine gf_111_1 X d_CT_caption_70 wl_CT_19 ?_
      obtain ⟨r8, σ9, er8, hf⟩ := bd_some hf
      refine ca_GR_find X d_CT_caption_73 wl_CT_116 ⟨Nat.le_of_ble_eq_true rfl, Nat.le_of_ble_eq_true rfl⟩ (sum8 rfl) er8 ?_
      refine g_aload_n X d_CT_caption_76 0 rfl ?_
      refine gf_111_5 X d_CT_caption_77 wl_CT_40 ?_
      refine g_iload_n X d_CT_caption_80 1 rfl ?_
      obtain ⟨r10, σ11, er10, hf⟩ := bd_some hf
      refine ca_GR_headOf X d_CT_caption_81 wl_CT_119 ⟨Nat.le_of_ble_eq_true rfl, Nat.le_of_ble_eq_true rfl⟩ (sum8 rfl) er10 ?_
      exact g_iret X d_CT_caption_84 hr hk9 hf
    have hf := ite_f q7 hf
    by_cases q12 : x2 = (nI 2)
    · have hf := ite_t q12 hf
      refine g_tsIn X d_CT_caption_14 85 (by rw [q12]; decide) (by rw [q12]; decide) (by rw [q12]; rfl) (by decide) ?_
      refine g_aload_n X d_CT_caption_85 0 rfl ?_
      refine gf_111_1 X d_CT_caption_86 wl_CT_19 ?_
      refine g_iload_n X d_CT_caption_89 1 rfl ?_
      obtain ⟨r13, σ14, er13, hf⟩ := bd_some hf
      refine ca_ST_lengthOf X d_CT_caption_90 wl_CT_206 ⟨Nat.le_of_ble_eq_true rfl, Nat.le_of_ble_eq_true rfl⟩ (sum8 rfl) er13 ?_
      exact g_iret X d_CT_caption_93 hr hk9 hf
    have hf := ite_f q12 hf
    by_cases q15 : x2 = (nI 3)
    · have hf := ite_t q15 hf
      refine g_tsIn X d_CT_caption_14 94 (by rw [q15]; decide) (by rw [q15]; decide) (by rw [q15]; rfl) (by decide) ?_
      refine g_aload_n X d_CT_caption_94 0 rfl ?_
      refine gf_111_1 X d_CT_caption_95 wl_CT_19 ?_
      refine g_iload_n X d_CT_caption_98 1 rfl ?_
      obtain ⟨r16, σ17, er16, hf⟩ := bd_some hf
      refine ca_ST_coreLengthOf X d_CT_caption_99 wl_CT_209 ⟨Nat.le_of_ble_eq_true rfl, Nat.le_of_ble_eq_true rfl⟩ (sum8 rfl) er16 ?_
      exact g_iret X d_CT_caption_102 hr hk9 hf
    have hf := ite_f q15 hf
    by_cases q18 : x2 = (nI 4)
    · have hf := ite_t q18 hf
      refine g_tsIn X d_CT_caption_14 103 (by rw [q18]; decide) (by rw [q18]; decide) (by rw [q18]; rfl) (by decide) ?_
      refine g_aload_n X d_CT_caption_103 0 rfl ?_
      refine gf_111_1 X d_CT_caption_104 wl_CT_19 ?_
      refine g_iload_n X d_CT_caption_107 1 rfl ?_
      obtain ⟨r19, σ20, er19, hf⟩ := bd_some hf
      refine ca_ST_linksInContest X d_CT_caption_108 wl_CT_212 ⟨Nat.le_of_ble_eq_true rfl, Nat.le_of_ble_eq_true rfl⟩ (sum8 rfl) er19 ?_
      exact g_iret X d_CT_caption_111 hr hk9 hf
    have hf := ite_f q18 hf
    by_cases q21 : x2 = (nI 5)
    · have hf := ite_t q21 hf
      refine g_tsIn X d_CT_caption_14 112 (by rw [q21]; decide) (by rw [q21]; decide) (by rw [q21]; rfl) (by decide) ?_
      refine g_aload_n X d_CT_caption_112 0 rfl ?_
      obtain ⟨r22, σ23, er22, hf⟩ := bd_some hf
      refine ca_CT_tally X d_CT_caption_113 wl_CT_215 ⟨Nat.le_of_ble_eq_true rfl, Nat.le_of_ble_eq_true rfl⟩ (sum8 rfl) er22 ?_
      refine g_aload_n X d_CT_caption_116 0 rfl ?_
      refine gf_111_10 X d_CT_caption_117 wl_CT_75 ?_
      refine g_iload_n X d_CT_caption_120 1 rfl ?_
      obtain ⟨r24, σ25, er24, hf⟩ := bd_some hf
      refine ca_SH_ofCaption X d_CT_caption_121 wl_CT_218 ⟨Nat.le_of_ble_eq_true rfl, Nat.le_of_ble_eq_true rfl⟩ (sum8 rfl) er24 ?_
      exact g_iret X d_CT_caption_124 hr hk9 hf
    have hf := ite_f q21 hf
    by_cases q26 : x2 = (nI 6)
    · have hf := ite_t q26 hf
      refine g_tsIn X d_CT_caption_14 125 (by rw [q26]; decide) (by rw [q26]; decide) (by rw [q26]; rfl) (by decide) ?_
      refine g_aload_n X d_CT_caption_125 0 rfl ?_
      refine gf_111_1 X d_CT_caption_126 wl_CT_19 ?_
      refine g_iload_n X d_CT_caption_129 1 rfl ?_
      obtain ⟨r27, σ28, er27, hf⟩ := bd_some hf
      refine ca_ST_ballotsWith X d_CT_caption_130 wl_CT_221 ⟨Nat.le_of_ble_eq_true rfl, Nat.le_of_ble_eq_true rfl⟩ (sum8 rfl) er27 ?_
      exact g_iret X d_CT_caption_133 hr hk9 hf
    have hf := ite_f q26 hf
    refine g_tsOut X d_CT_caption_14 134 (ts_out 7 (by decide) (fun k hk => by rcases (show k = 0 ∨ k = 1 ∨ k = 2 ∨ k = 3 ∨ k = 4 ∨ k = 5 ∨ k = 6 by omega) with rfl | rfl | rfl | rfl | rfl | rfl | rfl <;> assumption)) (by decide) ?_
    refine g_bipush X d_CT_caption_134 (v := (-2)) rfl ?_
    exact g_iret X d_CT_caption_136 hr hk9 hf
  · have hf := ite_t q3 hf
    refine g_iconst X d_CT_caption_11 (v := (-1)) rfl ?_
    exact g_iret X d_CT_caption_12 hr hk9 hf
section
variable {R : Room} {kc ks : Nat} {Q : State → Prop} {nL : Nat} {cc : ByteArray} {own : String} {pc : Nat} {lv lv' : List (Nat × Value)} {st : List Value}
theorem ca_CT_caption {x1 : Int32} {x2 : Int32} (X : Cx Γ p R s m args c cc nL own kc ks) {idx : Nat} (hd : decode cc pc = .ok (.invokevirtual idx, 3)) (hlk : Cond.methodLink own idx y_CT_caption ∈ lw_gt) (hR : 6 + 1 ≤ R.frames ∧ 8 + (3 + 11) + 137 ≤ R.locals) (hw : (st.map fun v => v.category).sum ≤ 8) {σ σ' : Sg} {r : Int32} (hf : f_CT_caption x1 x2 σ = some (r, σ')) (k : G Γ p l e R s m args below meth c kc ks Q nL (pc + 3) lv (.int r :: st) σ') : G Γ p l e R s m args below meth c kc ks Q nL pc lv (.int x2 :: .int x1 :: .ref (Γ.2.2.1 111) :: st) σ :=
  g_callV (As := [.int x1, .int x2]) (rest := st) X hd (c_CT_caption' hf) co_CT_caption hlk wn_CT_caption wse_CT_caption (by decide) kd_111 rfl hR rfl rfl hw k
end
set_option maxRecDepth 10000 in
theorem c_ST_textLetter' {Γ : Gm} {l : Launch} {x1 : Int32} {x2 : Int32} {σ σ' : Sg} {r : Int32} (hf : f_ST_textLetter x1 x2 σ = some (r, σ')) : Ctr Γ l y_ST_textLetter c_ST_textLetter 3 (some .int) 2 42 [.ref (Γ.2.2.1 0), .int x1, .int x2] σ σ' (some (.int r)) := by
  refine Ctr.of (lv := [(0, .ref (Γ.2.2.1 0)), (1, .int x1), (2, .int x2)]) (by decide +kernel) (Nat.le_of_ble_eq_true rfl) rfl ?_
  intro p e s m args below meth c X hr hk9
  have X : Cx Γ p (z_rm 2 42) s m args c c_ST_textLetter 3 "CaptionTallies$State" 0 0 := X
  rw [f_ST_textLetter] at hf
  refine g_iload_n X d_ST_textLetter_0 2 rfl ?_
  refine g_aload_n X d_ST_textLetter_1 0 rfl ?_
  refine g_iload_n X d_ST_textLetter_2 1 rfl ?_
  obtain ⟨r1, σ2, er1, hf⟩ := bd_some hf
  refine ca_ST_lengthOf X d_ST_textLetter_3 wl_ST_121 ⟨Nat.le_of_ble_eq_true rfl, Nat.le_of_ble_eq_true rfl⟩ (sum8 rfl) er1 ?_
  obtain ⟨r3, σ4, er3, hf⟩ := bd_some hf
  refine can_CT_isIndex X d_ST_textLetter_6 wl_ST_67 ⟨Nat.le_of_ble_eq_true rfl, Nat.le_of_ble_eq_true rfl⟩ (sum8 rfl) er3 ?_
  refine g_if_eq X d_ST_textLetter_9 28 (by decide) (fun q5 => ?_) (fun q5 => ?_)
  · have hf := ite_t q5 hf
    refine g_bipush X d_ST_textLetter_28 (v := (-5)) rfl ?_
    exact g_iret X d_ST_textLetter_30 hr hk9 hf
  · have hf := ite_f q5 hf
    refine g_aload_n X d_ST_textLetter_12 0 rfl ?_
    refine gf_0_3 X d_ST_textLetter_13 wl_ST_23 ?_
    refine g_iload_n X d_ST_textLetter_16 1 rfl ?_
    refine g_bipush X d_ST_textLetter_17 (v := (nI 60)) rfl ?_
    refine g_imul X d_ST_textLetter_19 ?_
    refine g_iload_n X d_ST_textLetter_20 2 rfl ?_
    refine g_iadd X d_ST_textLetter_21 ?_
    obtain ⟨r6, σ7, er6, hf⟩ := bd_some hf
    refine can_CT_at X d_ST_textLetter_22 wl_ST_117 ⟨Nat.le_of_ble_eq_true rfl, Nat.le_of_ble_eq_true rfl⟩ (sum8 rfl) kd_3 er6 ?_
    refine g_goto X d_ST_textLetter_25 30 (by decide) ?_
    exact g_iret X d_ST_textLetter_30 hr hk9 hf
section
variable {R : Room} {kc ks : Nat} {Q : State → Prop} {nL : Nat} {cc : ByteArray} {own : String} {pc : Nat} {lv lv' : List (Nat × Value)} {st : List Value}
theorem ca_ST_textLetter {x1 : Int32} {x2 : Int32} (X : Cx Γ p R s m args c cc nL own kc ks) {idx : Nat} (hd : decode cc pc = .ok (.invokevirtual idx, 3)) (hlk : Cond.methodLink own idx y_ST_textLetter ∈ lw_gt) (hR : 2 + 1 ≤ R.frames ∧ 8 + (3 + 11) + 42 ≤ R.locals) (hw : (st.map fun v => v.category).sum ≤ 8) {σ σ' : Sg} {r : Int32} (hf : f_ST_textLetter x1 x2 σ = some (r, σ')) (k : G Γ p l e R s m args below meth c kc ks Q nL (pc + 3) lv (.int r :: st) σ') : G Γ p l e R s m args below meth c kc ks Q nL pc lv (.int x2 :: .int x1 :: .ref (Γ.2.2.1 0) :: st) σ :=
  g_callV (As := [.int x1, .int x2]) (rest := st) X hd (c_ST_textLetter' hf) co_ST_textLetter hlk wn_ST_textLetter wse_ST_textLetter (by decide) kd_0 rfl hR rfl rfl hw k
end
set_option maxRecDepth 10000 in
theorem c_CT_letter' {Γ : Gm} {l : Launch} {x1 : Int32} {x2 : Int32} {σ σ' : Sg} {r : Int32} (hf : f_CT_letter x1 x2 σ = some (r, σ')) : Ctr Γ l y_CT_letter c_CT_letter 3 (some .int) 3 64 [.ref (Γ.2.2.1 111), .int x1, .int x2] σ σ' (some (.int r)) := by
  refine Ctr.of (lv := [(0, .ref (Γ.2.2.1 111)), (1, .int x1), (2, .int x2)]) (by decide +kernel) (Nat.le_of_ble_eq_true rfl) rfl ?_
  intro p e s m args below meth c X hr hk9
  have X : Cx Γ p (z_rm 3 64) s m args c c_CT_letter 3 "CaptionTallies" 0 0 := X
  rw [f_CT_letter] at hf
  refine g_aload_n X d_CT_letter_0 0 rfl ?_
  refine gf_111_1 X d_CT_letter_1 wl_CT_19 ?_
  refine g_iload_n X d_CT_letter_4 1 rfl ?_
  obtain ⟨r1, σ2, er1, hf⟩ := bd_some hf
  refine ca_ST_isIn X d_CT_letter_5 wl_CT_105 ⟨Nat.le_of_ble_eq_true rfl, Nat.le_of_ble_eq_true rfl⟩ (sum8 rfl) er1 ?_
  refine g_if_ne X d_CT_letter_8 13 (by decide) (fun q3 => ?_) (fun q3 => ?_)
  · have hf := ite_f q3 hf
    refine g_iload_n X d_CT_letter_13 2 rfl ?_
    refine g_if_ge X d_CT_letter_14 20 (by decide) (fun q4 => ?_) (fun q4 => ?_)
    · have hf := ite_t q4 hf
      refine g_aload_n X d_CT_letter_20 0 rfl ?_
      refine gf_111_1 X d_CT_letter_21 wl_CT_19 ?_
      refine g_iload_n X d_CT_letter_24 1 rfl ?_
      refine g_iload_n X d_CT_letter_25 2 rfl ?_
      obtain ⟨r5, σ6, er5, hf⟩ := bd_some hf
      refine ca_ST_textLetter X d_CT_letter_26 wl_CT_224 ⟨Nat.le_of_ble_eq_true rfl, Nat.le_of_ble_eq_true rfl⟩ (sum8 rfl) er5 ?_
      exact g_iret X d_CT_letter_29 hr hk9 hf
    · have hf := ite_f q4 hf
      refine g_bipush X d_CT_letter_17 (v := (-2)) rfl ?_
      exact g_iret X d_CT_letter_19 hr hk9 hf
  · have hf := ite_t q3 hf
    refine g_iconst X d_CT_letter_11 (v := (-1)) rfl ?_
    exact g_iret X d_CT_letter_12 hr hk9 hf
section
variable {R : Room} {kc ks : Nat} {Q : State → Prop} {nL : Nat} {cc : ByteArray} {own : String} {pc : Nat} {lv lv' : List (Nat × Value)} {st : List Value}
theorem ca_CT_letter {x1 : Int32} {x2 : Int32} (X : Cx Γ p R s m args c cc nL own kc ks) {idx : Nat} (hd : decode cc pc = .ok (.invokevirtual idx, 3)) (hlk : Cond.methodLink own idx y_CT_letter ∈ lw_gt) (hR : 3 + 1 ≤ R.frames ∧ 8 + (3 + 11) + 64 ≤ R.locals) (hw : (st.map fun v => v.category).sum ≤ 8) {σ σ' : Sg} {r : Int32} (hf : f_CT_letter x1 x2 σ = some (r, σ')) (k : G Γ p l e R s m args below meth c kc ks Q nL (pc + 3) lv (.int r :: st) σ') : G Γ p l e R s m args below meth c kc ks Q nL pc lv (.int x2 :: .int x1 :: .ref (Γ.2.2.1 111) :: st) σ :=
  g_callV (As := [.int x1, .int x2]) (rest := st) X hd (c_CT_letter' hf) co_CT_letter hlk wn_CT_letter wse_CT_letter (by decide) kd_111 rfl hR rfl rfl hw k
end
set_option maxRecDepth 10000 in
theorem c_CT_group' {Γ : Gm} {l : Launch} {x1 : Int32} {x2 : Int32} {σ σ' : Sg} {r : Int32} (hf : f_CT_group x1 x2 σ = some (r, σ')) : Ctr Γ l y_CT_group c_CT_group 4 (some .int) 6 137 [.ref (Γ.2.2.1 111), .int x1, .int x2] σ σ' (some (.int r)) := by
  refine Ctr.of (lv := [(0, .ref (Γ.2.2.1 111)), (1, .int x1), (2, .int x2)]) (by decide +kernel) (Nat.le_of_ble_eq_true rfl) rfl ?_
  intro p e s m args below meth c X hr hk9
  have X : Cx Γ p (z_rm 6 137) s m args c c_CT_group 4 "CaptionTallies" 0 0 := X
  rw [f_CT_group] at hf
  refine g_aload_n X d_CT_group_0 0 rfl ?_
  refine gf_111_1 X d_CT_group_1 wl_CT_19 ?_
  refine g_iload_n X d_CT_group_4 1 rfl ?_
  obtain ⟨r1, σ2, er1, hf⟩ := bd_some hf
  refine ca_ST_isIn X d_CT_group_5 wl_CT_105 ⟨Nat.le_of_ble_eq_true rfl, Nat.le_of_ble_eq_true rfl⟩ (sum8 rfl) er1 ?_
  refine g_if_ne X d_CT_group_8 13 (by decide) (fun q3 => ?_) (fun q3 => ?_)
  · have hf := ite_f q3 hf
    refine g_aload_n X d_CT_group_13 0 rfl ?_
    obtain ⟨r4, σ5, er4, hf⟩ := bd_some hf
    refine ca_CT_tally X d_CT_group_14 wl_CT_215 ⟨Nat.le_of_ble_eq_true rfl, Nat.le_of_ble_eq_true rfl⟩ (sum8 rfl) er4 ?_
    refine g_aload_n X d_CT_group_17 0 rfl ?_
    refine gf_111_5 X d_CT_group_18 wl_CT_40 ?_
    refine g_iload_n X d_CT_group_21 1 rfl ?_
    obtain ⟨r6, σ7, er6, hf⟩ := bd_some hf
    refine ca_GR_headOf X d_CT_group_22 wl_CT_119 ⟨Nat.le_of_ble_eq_true rfl, Nat.le_of_ble_eq_true rfl⟩ (sum8 rfl) er6 ?_
    refine g_istore_n X d_CT_group_25 rfl (lv' := [(3, .int r6), (0, .ref (Γ.2.2.1 111)), (1, .int x1), (2, .int x2)]) (Nat.le_of_ble_eq_true rfl) rfl ?_
    refine g_iload_n X d_CT_group_26 3 rfl ?_
    by_cases q8 : x2 = (nI 0)
    · have hf := ite_t q8 hf
      refine g_tsIn X d_CT_group_27 72 (by rw [q8]; decide) (by rw [q8]; decide) (by rw [q8]; rfl) (by decide) ?_
      refine g_aload_n X d_CT_group_72 1 rfl ?_
      refine gf_111_5 X d_CT_group_73 wl_CT_40 ?_
      refine g_iload_n X d_CT_group_76 0 rfl ?_
      obtain ⟨r9, σ10, er9, hf⟩ := bd_some hf
      refine ca_GR_sizeOf X d_CT_group_77 wl_CT_227 ⟨Nat.le_of_ble_eq_true rfl, Nat.le_of_ble_eq_true rfl⟩ (sum8 rfl) er9 ?_
      exact g_iret X d_CT_group_80 hr hk9 hf
    have hf := ite_f q8 hf
    by_cases q11 : x2 = (nI 1)
    · have hf := ite_t q11 hf
      refine g_tsIn X d_CT_group_27 81 (by rw [q11]; decide) (by rw [q11]; decide) (by rw [q11]; rfl) (by decide) ?_
      refine g_aload_n X d_CT_group_81 1 rfl ?_
      refine gf_111_6 X d_CT_group_82 wl_CT_47 ?_
      refine g_iload_n X d_CT_group_85 0 rfl ?_
      obtain ⟨r12, σ13, er12, hf⟩ := bd_some hf
      refine ca_CO_pointsOf X d_CT_group_86 wl_CT_230 ⟨Nat.le_of_ble_eq_true rfl, Nat.le_of_ble_eq_true rfl⟩ (sum8 rfl) er12 ?_
      exact g_iret X d_CT_group_89 hr hk9 hf
    have hf := ite_f q11 hf
    by_cases q14 : x2 = (nI 2)
    · have hf := ite_t q14 hf
      refine g_tsIn X d_CT_group_27 90 (by rw [q14]; decide) (by rw [q14]; decide) (by rw [q14]; rfl) (by decide) ?_
      refine g_aload_n X d_CT_group_90 1 rfl ?_
      refine gf_111_6 X d_CT_group_91 wl_CT_47 ?_
      refine g_iload_n X d_CT_group_94 0 rfl ?_
      obtain ⟨r15, σ16, er15, hf⟩ := bd_some hf
      refine ca_CO_firstsOf X d_CT_group_95 wl_CT_233 ⟨Nat.le_of_ble_eq_true rfl, Nat.le_of_ble_eq_true rfl⟩ (sum8 rfl) er15 ?_
      exact g_iret X d_CT_group_98 hr hk9 hf
    have hf := ite_f q14 hf
    by_cases q17 : x2 = (nI 3)
    · have hf := ite_t q17 hf
      refine g_tsIn X d_CT_group_27 99 (by rw [q17]; decide) (by rw [q17]; decide) (by rw [q17]; rfl) (by decide) ?_
      refine g_aload_n X d_CT_group_99 1 rfl ?_
      refine gf_111_7 X d_CT_group_100 wl_CT_54 ?_
      refine g_iload_n X d_CT_group_103 0 rfl ?_
      obtain ⟨r18, σ19, er18, hf⟩ := bd_some hf
      refine ca_RA_sumOf X d_CT_group_104 wl_CT_236 ⟨Nat.le_of_ble_eq_true rfl, Nat.le_of_ble_eq_true rfl⟩ (sum8 rfl) er18 ?_
      exact g_iret X d_CT_group_107 hr hk9 hf
    have hf := ite_f q17 hf
    by_cases q20 : x2 = (nI 4)
    · have hf := ite_t q20 hf
      refine g_tsIn X d_CT_group_27 108 (by rw [q20]; decide) (by rw [q20]; decide) (by rw [q20]; rfl) (by decide) ?_
      refine g_sipush X d_CT_group_108 (v := (nI 1000)) rfl ?_
      refine g_aload_n X d_CT_group_111 1 rfl ?_
      refine g_iload_n X d_CT_group_112 0 rfl ?_
      obtain ⟨r21, σ22, er21, hf⟩ := bd_some hf
      refine ca_CT_scoreOf X d_CT_group_113 wl_CT_239 ⟨Nat.le_of_ble_eq_true rfl, Nat.le_of_ble_eq_true rfl⟩ (sum8 rfl) er21 ?_
      refine g_iadd X d_CT_group_116 ?_
      exact g_iret X d_CT_group_117 hr hk9 hf
    have hf := ite_f q20 hf
    by_cases q23 : x2 = (nI 5)
    · have hf := ite_t q23 hf
      refine g_tsIn X d_CT_group_27 118 (by rw [q23]; decide) (by rw [q23]; decide) (by rw [q23]; rfl) (by decide) ?_
      refine g_aload_n X d_CT_group_118 1 rfl ?_
      refine gf_111_9 X d_CT_group_119 wl_CT_68 ?_
      refine g_iload_n X d_CT_group_122 0 rfl ?_
      obtain ⟨r24, σ25, er24, hf⟩ := bd_some hf
      refine ca_OR_placeOf X d_CT_group_123 wl_CT_242 ⟨Nat.le_of_ble_eq_true rfl, Nat.le_of_ble_eq_true rfl⟩ (sum8 rfl) er24 ?_
      exact g_iret X d_CT_group_126 hr hk9 hf
    have hf := ite_f q23 hf
    by_cases q26 : x2 = (nI 6)
    · have hf := ite_t q26 hf
      refine g_tsIn X d_CT_group_27 127 (by rw [q26]; decide) (by rw [q26]; decide) (by rw [q26]; rfl) (by decide) ?_
      refine g_aload_n X d_CT_group_127 1 rfl ?_
      refine gf_111_10 X d_CT_group_128 wl_CT_75 ?_
      refine g_iload_n X d_CT_group_131 0 rfl ?_
      obtain ⟨r27, σ28, er27, hf⟩ := bd_some hf
      refine ca_SH_ofGroup X d_CT_group_132 wl_CT_245 ⟨Nat.le_of_ble_eq_true rfl, Nat.le_of_ble_eq_true rfl⟩ (sum8 rfl) er27 ?_
      exact g_iret X d_CT_group_135 hr hk9 hf
    have hf := ite_f q26 hf
    by_cases q29 : x2 = (nI 7)
    · have hf := ite_t q29 hf
      refine g_tsIn X d_CT_group_27 136 (by rw [q29]; decide) (by rw [q29]; decide) (by rw [q29]; rfl) (by decide) ?_
      refine g_aload_n X d_CT_group_136 1 rfl ?_
      refine gf_111_8 X d_CT_group_137 wl_CT_61 ?_
      refine g_iload_n X d_CT_group_140 0 rfl ?_
      obtain ⟨r30, σ31, er30, hf⟩ := bd_some hf
      refine ca_RO_roundOf X d_CT_group_141 wl_CT_248 ⟨Nat.le_of_ble_eq_true rfl, Nat.le_of_ble_eq_true rfl⟩ (sum8 rfl) er30 ?_
      exact g_iret X d_CT_group_144 hr hk9 hf
    have hf := ite_f q29 hf
    refine g_tsOut X d_CT_group_27 145 (ts_out 8 (by decide) (fun k hk => by rcases (show k = 0 ∨ k = 1 ∨ k = 2 ∨ k = 3 ∨ k = 4 ∨ k = 5 ∨ k = 6 ∨ k = 7 by omega) with rfl | rfl | rfl | rfl | rfl | rfl | rfl | rfl <;> assumption)) (by decide) ?_
    refine g_bipush X d_CT_group_145 (v := (-2)) rfl ?_
    exact g_iret X d_CT_group_147 hr hk9 hf
  · have hf := ite_t q3 hf
    refine g_iconst X d_CT_group_11 (v := (-1)) rfl ?_
    exact g_iret X d_CT_group_12 hr hk9 hf
section
variable {R : Room} {kc ks : Nat} {Q : State → Prop} {nL : Nat} {cc : ByteArray} {own : String} {pc : Nat} {lv lv' : List (Nat × Value)} {st : List Value}
theorem ca_CT_group {x1 : Int32} {x2 : Int32} (X : Cx Γ p R s m args c cc nL own kc ks) {idx : Nat} (hd : decode cc pc = .ok (.invokevirtual idx, 3)) (hlk : Cond.methodLink own idx y_CT_group ∈ lw_gt) (hR : 6 + 1 ≤ R.frames ∧ 8 + (4 + 11) + 137 ≤ R.locals) (hw : (st.map fun v => v.category).sum ≤ 8) {σ σ' : Sg} {r : Int32} (hf : f_CT_group x1 x2 σ = some (r, σ')) (k : G Γ p l e R s m args below meth c kc ks Q nL (pc + 3) lv (.int r :: st) σ') : G Γ p l e R s m args below meth c kc ks Q nL pc lv (.int x2 :: .int x1 :: .ref (Γ.2.2.1 111) :: st) σ :=
  g_callV (As := [.int x1, .int x2]) (rest := st) X hd (c_CT_group' hf) co_CT_group hlk wn_CT_group wse_CT_group (by decide) kd_111 rfl hR rfl rfl hw k
end
set_option maxRecDepth 10000 in
theorem c_CT_judged' {Γ : Gm} {l : Launch} {x1 : Int32} {x2 : Int32} {x3 : Int32} {σ σ' : Sg} {r : Int32} (hf : f_CT_judged x1 x2 x3 σ = some (r, σ')) : Ctr Γ l y_CT_judged c_CT_judged 5 (some .int) 5 115 [.ref (Γ.2.2.1 111), .int x1, .int x2, .int x3] σ σ' (some (.int r)) := by
  refine Ctr.of (lv := [(0, .ref (Γ.2.2.1 111)), (1, .int x1), (2, .int x2), (3, .int x3)]) (by decide +kernel) (Nat.le_of_ble_eq_true rfl) rfl ?_
  intro p e s m args below meth c X hr hk9
  have X : Cx Γ p (z_rm 5 115) s m args c c_CT_judged 5 "CaptionTallies" 0 0 := X
  rw [f_CT_judged] at hf
  refine g_iload_n X d_CT_judged_0 1 rfl ?_
  refine g_iconst X d_CT_judged_1 (v := (nI 3)) rfl ?_
  obtain ⟨r1, σ2, er1, hf⟩ := bd_some hf
  refine ca_CT_isIndex X d_CT_judged_2 wl_CT_86 ⟨Nat.le_of_ble_eq_true rfl, Nat.le_of_ble_eq_true rfl⟩ (sum8 rfl) er1 ?_
  refine g_if_eq X d_CT_judged_5 19 (by decide) (fun q3 => ?_) (fun q3 => ?_)
  · have hf := ite_t q3 hf
    refine g_iconst X d_CT_judged_19 (v := (-1)) rfl ?_
    exact g_iret X d_CT_judged_20 hr hk9 hf
  · have hf := ite_f q3 hf
    refine g_aload_n X d_CT_judged_8 0 rfl ?_
    refine gf_111_1 X d_CT_judged_9 wl_CT_19 ?_
    refine g_iload_n X d_CT_judged_12 2 rfl ?_
    obtain ⟨r4, σ5, er4, hf⟩ := bd_some hf
    refine ca_ST_isIn X d_CT_judged_13 wl_CT_105 ⟨Nat.le_of_ble_eq_true rfl, Nat.le_of_ble_eq_true rfl⟩ (sum8 rfl) er4 ?_
    refine g_if_ne X d_CT_judged_16 21 (by decide) (fun q6 => ?_) (fun q6 => ?_)
    · have hf := ite_f q6 hf
      refine g_aload_n X d_CT_judged_21 0 rfl ?_
      refine gf_111_5 X d_CT_judged_22 wl_CT_40 ?_
      refine g_aload_n X d_CT_judged_25 0 rfl ?_
      refine gf_111_1 X d_CT_judged_26 wl_CT_19 ?_
      obtain ⟨r7, σ8, er7, hf⟩ := bd_some hf
      refine ca_GR_find X d_CT_judged_29 wl_CT_116 ⟨Nat.le_of_ble_eq_true rfl, Nat.le_of_ble_eq_true rfl⟩ (sum8 rfl) er7 ?_
      refine g_aload_n X d_CT_judged_32 0 rfl ?_
      refine gf_111_7 X d_CT_judged_33 wl_CT_54 ?_
      refine g_aload_n X d_CT_judged_36 0 rfl ?_
      refine gf_111_1 X d_CT_judged_37 wl_CT_19 ?_
      refine g_aload_n X d_CT_judged_40 0 rfl ?_
      refine gf_111_5 X d_CT_judged_41 wl_CT_40 ?_
      obtain ⟨r9, σ10, er9, hf⟩ := bd_some hf
      refine ca_RA_fill X d_CT_judged_44 wl_CT_162 ⟨Nat.le_of_ble_eq_true rfl, Nat.le_of_ble_eq_true rfl⟩ (sum8 rfl) er9 ?_
      refine g_aload_n X d_CT_judged_47 0 rfl ?_
      refine gf_111_5 X d_CT_judged_48 wl_CT_40 ?_
      refine g_iload_n X d_CT_judged_51 2 rfl ?_
      obtain ⟨r11, σ12, er11, hf⟩ := bd_some hf
      refine ca_GR_headOf X d_CT_judged_52 wl_CT_119 ⟨Nat.le_of_ble_eq_true rfl, Nat.le_of_ble_eq_true rfl⟩ (sum8 rfl) er11 ?_
      refine g_istore X d_CT_judged_55 (lv' := [(4, .int r11), (0, .ref (Γ.2.2.1 111)), (1, .int x1), (2, .int x2), (3, .int x3)]) (Nat.le_of_ble_eq_true rfl) rfl ?_
      refine g_iload_n X d_CT_judged_57 4 rfl ?_
      by_cases q13 : x3 = (nI 0)
      · have hf := ite_t q13 hf
        refine g_tsIn X d_CT_judged_58 84 (by rw [q13]; decide) (by rw [q13]; decide) (by rw [q13]; rfl) (by decide) ?_
        refine g_aload_n X d_CT_judged_84 1 rfl ?_
        refine gf_111_1 X d_CT_judged_85 wl_CT_19 ?_
        refine g_iload_n X d_CT_judged_88 2 rfl ?_
        refine g_iload_n X d_CT_judged_89 3 rfl ?_
        obtain ⟨r14, σ15, er14, hf⟩ := bd_some hf
        refine ca_ST_pointsBy X d_CT_judged_90 wl_CT_154 ⟨Nat.le_of_ble_eq_true rfl, Nat.le_of_ble_eq_true rfl⟩ (sum8 rfl) er14 ?_
        exact g_iret X d_CT_judged_93 hr hk9 hf
      have hf := ite_f q13 hf
      by_cases q16 : x3 = (nI 1)
      · have hf := ite_t q16 hf
        refine g_tsIn X d_CT_judged_58 94 (by rw [q16]; decide) (by rw [q16]; decide) (by rw [q16]; rfl) (by decide) ?_
        refine g_aload_n X d_CT_judged_94 1 rfl ?_
        refine gf_111_7 X d_CT_judged_95 wl_CT_54 ?_
        refine g_iload_n X d_CT_judged_98 2 rfl ?_
        refine g_iload X d_CT_judged_99 0 rfl ?_
        obtain ⟨r17, σ18, er17, hf⟩ := bd_some hf
        refine ca_RA_pointsBy X d_CT_judged_101 wl_CT_251 ⟨Nat.le_of_ble_eq_true rfl, Nat.le_of_ble_eq_true rfl⟩ (sum8 rfl) er17 ?_
        exact g_iret X d_CT_judged_104 hr hk9 hf
      have hf := ite_f q16 hf
      by_cases q19 : x3 = (nI 2)
      · have hf := ite_t q19 hf
        refine g_tsIn X d_CT_judged_58 105 (by rw [q19]; decide) (by rw [q19]; decide) (by rw [q19]; rfl) (by decide) ?_
        refine g_aload_n X d_CT_judged_105 1 rfl ?_
        refine gf_111_7 X d_CT_judged_106 wl_CT_54 ?_
        refine g_iload_n X d_CT_judged_109 2 rfl ?_
        refine g_iload X d_CT_judged_110 0 rfl ?_
        obtain ⟨r20, σ21, er20, hf⟩ := bd_some hf
        refine ca_RA_rankBy X d_CT_judged_112 wl_CT_166 ⟨Nat.le_of_ble_eq_true rfl, Nat.le_of_ble_eq_true rfl⟩ (sum8 rfl) er20 ?_
        exact g_iret X d_CT_judged_115 hr hk9 hf
      have hf := ite_f q19 hf
      refine g_tsOut X d_CT_judged_58 116 (ts_out 3 (by decide) (fun k hk => by rcases (show k = 0 ∨ k = 1 ∨ k = 2 by omega) with rfl | rfl | rfl <;> assumption)) (by decide) ?_
      refine g_bipush X d_CT_judged_116 (v := (-2)) rfl ?_
      exact g_iret X d_CT_judged_118 hr hk9 hf
    · have hf := ite_t q6 hf
      refine g_iconst X d_CT_judged_19 (v := (-1)) rfl ?_
      exact g_iret X d_CT_judged_20 hr hk9 hf
section
variable {R : Room} {kc ks : Nat} {Q : State → Prop} {nL : Nat} {cc : ByteArray} {own : String} {pc : Nat} {lv lv' : List (Nat × Value)} {st : List Value}
theorem ca_CT_judged {x1 : Int32} {x2 : Int32} {x3 : Int32} (X : Cx Γ p R s m args c cc nL own kc ks) {idx : Nat} (hd : decode cc pc = .ok (.invokevirtual idx, 3)) (hlk : Cond.methodLink own idx y_CT_judged ∈ lw_gt) (hR : 5 + 1 ≤ R.frames ∧ 8 + (5 + 11) + 115 ≤ R.locals) (hw : (st.map fun v => v.category).sum ≤ 8) {σ σ' : Sg} {r : Int32} (hf : f_CT_judged x1 x2 x3 σ = some (r, σ')) (k : G Γ p l e R s m args below meth c kc ks Q nL (pc + 3) lv (.int r :: st) σ') : G Γ p l e R s m args below meth c kc ks Q nL pc lv (.int x3 :: .int x2 :: .int x1 :: .ref (Γ.2.2.1 111) :: st) σ :=
  g_callV (As := [.int x1, .int x2, .int x3]) (rest := st) X hd (c_CT_judged' hf) co_CT_judged hlk wn_CT_judged wse_CT_judged (by decide) kd_111 rfl hR rfl rfl hw k
end
set_option maxRecDepth 10000 in
theorem c_CT_ballot' {Γ : Gm} {l : Launch} {x1 : Int32} {x2 : Int32} {x3 : Int32} {σ σ' : Sg} {r : Int32} (hf : f_CT_ballot x1 x2 x3 σ = some (r, σ')) : Ctr Γ l y_CT_ballot c_CT_ballot 4 (some .int) 5 117 [.ref (Γ.2.2.1 111), .int x1, .int x2, .int x3] σ σ' (some (.int r)) := by
  refine Ctr.of (lv := [(0, .ref (Γ.2.2.1 111)), (1, .int x1), (2, .int x2), (3, .int x3)]) (by decide +kernel) (Nat.le_of_ble_eq_true rfl) rfl ?_
  intro p e s m args below meth c X hr hk9
  have X : Cx Γ p (z_rm 5 117) s m args c c_CT_ballot 4 "CaptionTallies" 0 0 := X
  rw [f_CT_ballot] at hf
  refine g_iload_n X d_CT_ballot_0 1 rfl ?_
  refine g_bipush X d_CT_ballot_1 (v := (nI 12)) rfl ?_
  obtain ⟨r1, σ2, er1, hf⟩ := bd_some hf
  refine ca_CT_isIndex X d_CT_ballot_3 wl_CT_86 ⟨Nat.le_of_ble_eq_true rfl, Nat.le_of_ble_eq_true rfl⟩ (sum8 rfl) er1 ?_
  refine g_if_ne X d_CT_ballot_6 11 (by decide) (fun q3 => ?_) (fun q3 => ?_)
  · have hf := ite_f q3 hf
    refine g_iload_n X d_CT_ballot_11 2 rfl ?_
    refine g_iconst X d_CT_ballot_12 (v := (nI 3)) rfl ?_
    obtain ⟨r4, σ5, er4, hf⟩ := bd_some hf
    refine ca_CT_isIndex X d_CT_ballot_13 wl_CT_86 ⟨Nat.le_of_ble_eq_true rfl, Nat.le_of_ble_eq_true rfl⟩ (sum8 rfl) er4 ?_
    refine g_if_ne X d_CT_ballot_16 22 (by decide) (fun q6 => ?_) (fun q6 => ?_)
    · have hf := ite_f q6 hf
      refine g_iload_n X d_CT_ballot_22 3 rfl ?_
      refine g_if_ne X d_CT_ballot_23 36 (by decide) (fun q7 => ?_) (fun q7 => ?_)
      · have hf := ite_f q7 hf
        refine g_aload_n X d_CT_ballot_36 0 rfl ?_
        refine gf_111_5 X d_CT_ballot_37 wl_CT_40 ?_
        refine g_aload_n X d_CT_ballot_40 0 rfl ?_
        refine gf_111_1 X d_CT_ballot_41 wl_CT_19 ?_
        obtain ⟨r8, σ9, er8, hf⟩ := bd_some hf
        refine ca_GR_find X d_CT_ballot_44 wl_CT_116 ⟨Nat.le_of_ble_eq_true rfl, Nat.le_of_ble_eq_true rfl⟩ (sum8 rfl) er8 ?_
        refine g_aload_n X d_CT_ballot_47 0 rfl ?_
        refine gf_111_6 X d_CT_ballot_48 wl_CT_47 ?_
        refine g_aload_n X d_CT_ballot_51 0 rfl ?_
        refine gf_111_1 X d_CT_ballot_52 wl_CT_19 ?_
        refine g_aload_n X d_CT_ballot_55 0 rfl ?_
        refine gf_111_5 X d_CT_ballot_56 wl_CT_40 ?_
        obtain ⟨r10, σ11, er10, hf⟩ := bd_some hf
        refine ca_CO_fill X d_CT_ballot_59 wl_CT_255 ⟨Nat.le_of_ble_eq_true rfl, Nat.le_of_ble_eq_true rfl⟩ (sum8 rfl) er10 ?_
        refine g_aload_n X d_CT_ballot_62 0 rfl ?_
        refine gf_111_6 X d_CT_ballot_63 wl_CT_47 ?_
        refine g_iload_n X d_CT_ballot_66 1 rfl ?_
        refine g_iload_n X d_CT_ballot_67 2 rfl ?_
        obtain ⟨r12, σ13, er12, hf⟩ := bd_some hf
        refine ca_CO_wish X d_CT_ballot_68 wl_CT_256 ⟨Nat.le_of_ble_eq_true rfl, Nat.le_of_ble_eq_true rfl⟩ (sum8 rfl) er12 ?_
        exact g_iret X d_CT_ballot_71 hr hk9 hf
      · have hf := ite_t q7 hf
        refine g_aload_n X d_CT_ballot_26 0 rfl ?_
        refine gf_111_1 X d_CT_ballot_27 wl_CT_19 ?_
        refine g_iload_n X d_CT_ballot_30 1 rfl ?_
        refine g_iload_n X d_CT_ballot_31 2 rfl ?_
        obtain ⟨r14, σ15, er14, hf⟩ := bd_some hf
        refine ca_ST_wish X d_CT_ballot_32 wl_CT_252 ⟨Nat.le_of_ble_eq_true rfl, Nat.le_of_ble_eq_true rfl⟩ (sum8 rfl) er14 ?_
        exact g_iret X d_CT_ballot_35 hr hk9 hf
    · have hf := ite_t q6 hf
      refine g_bipush X d_CT_ballot_19 (v := (-2)) rfl ?_
      exact g_iret X d_CT_ballot_21 hr hk9 hf
  · have hf := ite_t q3 hf
    refine g_iconst X d_CT_ballot_9 (v := (-1)) rfl ?_
    exact g_iret X d_CT_ballot_10 hr hk9 hf
section
variable {R : Room} {kc ks : Nat} {Q : State → Prop} {nL : Nat} {cc : ByteArray} {own : String} {pc : Nat} {lv lv' : List (Nat × Value)} {st : List Value}
theorem ca_CT_ballot {x1 : Int32} {x2 : Int32} {x3 : Int32} (X : Cx Γ p R s m args c cc nL own kc ks) {idx : Nat} (hd : decode cc pc = .ok (.invokevirtual idx, 3)) (hlk : Cond.methodLink own idx y_CT_ballot ∈ lw_gt) (hR : 5 + 1 ≤ R.frames ∧ 8 + (4 + 11) + 117 ≤ R.locals) (hw : (st.map fun v => v.category).sum ≤ 8) {σ σ' : Sg} {r : Int32} (hf : f_CT_ballot x1 x2 x3 σ = some (r, σ')) (k : G Γ p l e R s m args below meth c kc ks Q nL (pc + 3) lv (.int r :: st) σ') : G Γ p l e R s m args below meth c kc ks Q nL pc lv (.int x3 :: .int x2 :: .int x1 :: .ref (Γ.2.2.1 111) :: st) σ :=
  g_callV (As := [.int x1, .int x2, .int x3]) (rest := st) X hd (c_CT_ballot' hf) co_CT_ballot hlk wn_CT_ballot wse_CT_ballot (by decide) kd_111 rfl hR rfl rfl hw k
end
set_option maxRecDepth 10000 in
theorem w_OR_headAt_2 {r : Int32} {σ' : Sg} (X : Cx Γ p (z_rm 0 0) s m args c c_OR_headAt 3 "CaptionTallies$Order" 0 0) (hr : meth.sig.returnType = (some .int)) (hk9 : meth.locks = false) : ∀ (n9 : Nat) (x1 : Int32) (x2 : Int32) (σ : Sg), f_OR_headAt_2 n9 x1 x2 σ = some (r, σ') → G Γ p l e (z_rm 0 0) s m args below meth c 0 0 (MQ below (Qx Γ (some (.int r)) σ') args s 0 0 (fun q : Nat => Γ.2.2.2 ≤ q)) 3 2 [(0, .ref (Γ.2.2.1 100)), (1, .int x1), (2, .int x2)] [] σ := by
  intro n9
  induction n9 with
  | zero => intro x1 x2 σ hf; cases hf
  | succ n9 ih =>
    intro x1 x2 σ hf
    rw [f_OR_headAt_2] at hf
    refine g_iload_n X d_OR_headAt_2 2 rfl ?_
    refine g_bipush X d_OR_headAt_3 (v := (nI 20)) rfl ?_
    refine g_ic_ge X d_OR_headAt_5 26 (by decide) (fun q1 => ?_) (fun q1 => ?_)
    · have hf := ite_t q1 hf
      refine g_bipush X d_OR_headAt_26 (v := (-5)) rfl ?_
      exact g_iret X d_OR_headAt_28 hr hk9 hf
    · have hf := ite_f q1 hf
      refine g_aload_n X d_OR_headAt_8 0 rfl ?_
      refine gf_100_3 X d_OR_headAt_9 wl_OR_22 ?_
      refine g_iload_n X d_OR_headAt_12 2 rfl ?_
      obtain ⟨b2, hf⟩ := gd_some hf
      refine g_iald X d_OR_headAt_13 kd_104 b2 ?_
      refine g_iload_n X d_OR_headAt_14 1 rfl ?_
      refine g_ic_ne X d_OR_headAt_15 20 (by decide) (fun q3 => ?_) (fun q3 => ?_)
      · have hf := ite_f q3 hf
        refine g_iinc X d_OR_headAt_20 (j := 2) (lv' := [(2, .int (x2 + (nI 1))), (0, .ref (Γ.2.2.1 100)), (1, .int x1)]) rfl rfl (Nat.le_of_ble_eq_true rfl) rfl ?_
        refine g_goto X d_OR_headAt_23 2 (by decide) ?_
        refine g_sub [1, 2, 0] rfl ?_
        exact ih _ _ _ hf
      · have hf := ite_t q3 hf
        refine g_iload_n X d_OR_headAt_18 2 rfl ?_
        exact g_iret X d_OR_headAt_19 hr hk9 hf
set_option maxRecDepth 10000 in
theorem c_OR_headAt' {Γ : Gm} {l : Launch} {x1 : Int32} {σ σ' : Sg} {r : Int32} (hf : f_OR_headAt x1 σ = some (r, σ')) : Ctr Γ l y_OR_headAt c_OR_headAt 3 (some .int) 0 0 [.ref (Γ.2.2.1 100), .int x1] σ σ' (some (.int r)) := by
  refine Ctr.of (lv := [(0, .ref (Γ.2.2.1 100)), (1, .int x1)]) (by decide +kernel) (Nat.le_of_ble_eq_true rfl) rfl ?_
  intro p e s m args below meth c X hr hk9
  have X : Cx Γ p (z_rm 0 0) s m args c c_OR_headAt 3 "CaptionTallies$Order" 0 0 := X
  rw [f_OR_headAt] at hf
  refine g_iconst X d_OR_headAt_0 (v := (nI 0)) rfl ?_
  refine g_istore_n X d_OR_headAt_1 rfl (lv' := [(2, .int (nI 0)), (0, .ref (Γ.2.2.1 100)), (1, .int x1)]) (Nat.le_of_ble_eq_true rfl) rfl ?_
  refine g_sub [1, 2, 0] rfl ?_
  exact w_OR_headAt_2 X hr hk9 _ _ _ _ hf
section
variable {R : Room} {kc ks : Nat} {Q : State → Prop} {nL : Nat} {cc : ByteArray} {own : String} {pc : Nat} {lv lv' : List (Nat × Value)} {st : List Value}
theorem ca_OR_headAt {x1 : Int32} (X : Cx Γ p R s m args c cc nL own kc ks) {idx : Nat} (hd : decode cc pc = .ok (.invokevirtual idx, 3)) (hlk : Cond.methodLink own idx y_OR_headAt ∈ lw_gt) (hR : 0 + 1 ≤ R.frames ∧ 8 + (3 + 11) + 0 ≤ R.locals) (hw : (st.map fun v => v.category).sum ≤ 8) {σ σ' : Sg} {r : Int32} (hf : f_OR_headAt x1 σ = some (r, σ')) (k : G Γ p l e R s m args below meth c kc ks Q nL (pc + 3) lv (.int r :: st) σ') : G Γ p l e R s m args below meth c kc ks Q nL pc lv (.int x1 :: .ref (Γ.2.2.1 100) :: st) σ :=
  g_callV (As := [.int x1]) (rest := st) X hd (c_OR_headAt' hf) co_OR_headAt hlk wn_OR_headAt wse_OR_headAt (by decide) kd_100 rfl hR rfl rfl hw k
end
set_option maxRecDepth 10000 in
theorem c_CT_ranked' {Γ : Gm} {l : Launch} {x1 : Int32} {σ σ' : Sg} {r : Int32} (hf : f_CT_ranked x1 σ = some (r, σ')) : Ctr Γ l y_CT_ranked c_CT_ranked 2 (some .int) 6 137 [.ref (Γ.2.2.1 111), .int x1] σ σ' (some (.int r)) := by
  refine Ctr.of (lv := [(0, .ref (Γ.2.2.1 111)), (1, .int x1)]) (by decide +kernel) (Nat.le_of_ble_eq_true rfl) rfl ?_
  intro p e s m args below meth c X hr hk9
  have X : Cx Γ p (z_rm 6 137) s m args c c_CT_ranked 2 "CaptionTallies" 0 0 := X
  rw [f_CT_ranked] at hf
  refine g_iload_n X d_CT_ranked_0 1 rfl ?_
  refine g_if_ge X d_CT_ranked_1 7 (by decide) (fun q1 => ?_) (fun q1 => ?_)
  · have hf := ite_t q1 hf
    refine g_aload_n X d_CT_ranked_7 0 rfl ?_
    obtain ⟨r2, σ3, er2, hf⟩ := bd_some hf
    refine ca_CT_tally X d_CT_ranked_8 wl_CT_215 ⟨Nat.le_of_ble_eq_true rfl, Nat.le_of_ble_eq_true rfl⟩ (sum8 rfl) er2 ?_
    refine g_aload_n X d_CT_ranked_11 0 rfl ?_
    refine gf_111_9 X d_CT_ranked_12 wl_CT_68 ?_
    refine g_iload_n X d_CT_ranked_15 1 rfl ?_
    obtain ⟨r4, σ5, er4, hf⟩ := bd_some hf
    refine ca_OR_headAt X d_CT_ranked_16 wl_CT_257 ⟨Nat.le_of_ble_eq_true rfl, Nat.le_of_ble_eq_true rfl⟩ (sum8 rfl) er4 ?_
    exact g_iret X d_CT_ranked_19 hr hk9 hf
  · have hf := ite_f q1 hf
    refine g_bipush X d_CT_ranked_4 (v := (-2)) rfl ?_
    exact g_iret X d_CT_ranked_6 hr hk9 hf
section
variable {R : Room} {kc ks : Nat} {Q : State → Prop} {nL : Nat} {cc : ByteArray} {own : String} {pc : Nat} {lv lv' : List (Nat × Value)} {st : List Value}
theorem ca_CT_ranked {x1 : Int32} (X : Cx Γ p R s m args c cc nL own kc ks) {idx : Nat} (hd : decode cc pc = .ok (.invokevirtual idx, 3)) (hlk : Cond.methodLink own idx y_CT_ranked ∈ lw_gt) (hR : 6 + 1 ≤ R.frames ∧ 8 + (2 + 11) + 137 ≤ R.locals) (hw : (st.map fun v => v.category).sum ≤ 8) {σ σ' : Sg} {r : Int32} (hf : f_CT_ranked x1 σ = some (r, σ')) (k : G Γ p l e R s m args below meth c kc ks Q nL (pc + 3) lv (.int r :: st) σ') : G Γ p l e R s m args below meth c kc ks Q nL pc lv (.int x1 :: .ref (Γ.2.2.1 111) :: st) σ :=
  g_callV (As := [.int x1]) (rest := st) X hd (c_CT_ranked' hf) co_CT_ranked hlk wn_CT_ranked wse_CT_ranked (by decide) kd_111 rfl hR rfl rfl hw k
end
set_option maxRecDepth 10000 in
theorem c_RO_ballotsForNone' {Γ : Gm} {l : Launch} {x1 : Int32} {σ σ' : Sg} {r : Int32} (hf : f_RO_ballotsForNone x1 σ = some (r, σ')) : Ctr Γ l y_RO_ballotsForNone c_RO_ballotsForNone 2 (some .int) 1 21 [.ref (Γ.2.2.1 93), .int x1] σ σ' (some (.int r)) := by
  refine Ctr.of (lv := [(0, .ref (Γ.2.2.1 93)), (1, .int x1)]) (by decide +kernel) (Nat.le_of_ble_eq_true rfl) rfl ?_
  intro p e s m args below meth c X hr hk9
  have X : Cx Γ p (z_rm 1 21) s m args c c_RO_ballotsForNone 2 "CaptionTallies$Rounds" 0 0 := X
  rw [f_RO_ballotsForNone] at hf
  refine g_aload_n X d_RO_ballotsForNone_0 0 rfl ?_
  refine gf_93_5 X d_RO_ballotsForNone_1 wl_RO_28 ?_
  refine g_iload_n X d_RO_ballotsForNone_4 1 rfl ?_
  obtain ⟨r1, σ2, er1, hf⟩ := bd_some hf
  refine can_CT_at X d_RO_ballotsForNone_5 wl_RO_108 ⟨Nat.le_of_ble_eq_true rfl, Nat.le_of_ble_eq_true rfl⟩ (sum8 rfl) kd_99 er1 ?_
  exact g_iret X d_RO_ballotsForNone_8 hr hk9 hf
section
variable {R : Room} {kc ks : Nat} {Q : State → Prop} {nL : Nat} {cc : ByteArray} {own : String} {pc : Nat} {lv lv' : List (Nat × Value)} {st : List Value}
theorem ca_RO_ballotsForNone {x1 : Int32} (X : Cx Γ p R s m args c cc nL own kc ks) {idx : Nat} (hd : decode cc pc = .ok (.invokevirtual idx, 3)) (hlk : Cond.methodLink own idx y_RO_ballotsForNone ∈ lw_gt) (hR : 1 + 1 ≤ R.frames ∧ 8 + (2 + 11) + 21 ≤ R.locals) (hw : (st.map fun v => v.category).sum ≤ 8) {σ σ' : Sg} {r : Int32} (hf : f_RO_ballotsForNone x1 σ = some (r, σ')) (k : G Γ p l e R s m args below meth c kc ks Q nL (pc + 3) lv (.int r :: st) σ') : G Γ p l e R s m args below meth c kc ks Q nL pc lv (.int x1 :: .ref (Γ.2.2.1 93) :: st) σ :=
  g_callV (As := [.int x1]) (rest := st) X hd (c_RO_ballotsForNone' hf) co_RO_ballotsForNone hlk wn_RO_ballotsForNone wse_RO_ballotsForNone (by decide) kd_93 rfl hR rfl rfl hw k
end
set_option maxRecDepth 10000 in
theorem c_RO_ballotsOfHeadOut' {Γ : Gm} {l : Launch} {x1 : Int32} {σ σ' : Sg} {r : Int32} (hf : f_RO_ballotsOfHeadOut x1 σ = some (r, σ')) : Ctr Γ l y_RO_ballotsOfHeadOut c_RO_ballotsOfHeadOut 2 (some .int) 1 21 [.ref (Γ.2.2.1 93), .int x1] σ σ' (some (.int r)) := by
  refine Ctr.of (lv := [(0, .ref (Γ.2.2.1 93)), (1, .int x1)]) (by decide +kernel) (Nat.le_of_ble_eq_true rfl) rfl ?_
  intro p e s m args below meth c X hr hk9
  have X : Cx Γ p (z_rm 1 21) s m args c c_RO_ballotsOfHeadOut 2 "CaptionTallies$Rounds" 0 0 := X
  rw [f_RO_ballotsOfHeadOut] at hf
  refine g_aload_n X d_RO_ballotsOfHeadOut_0 0 rfl ?_
  refine gf_93_4 X d_RO_ballotsOfHeadOut_1 wl_RO_25 ?_
  refine g_iload_n X d_RO_ballotsOfHeadOut_4 1 rfl ?_
  obtain ⟨r1, σ2, er1, hf⟩ := bd_some hf
  refine can_CT_at X d_RO_ballotsOfHeadOut_5 wl_RO_108 ⟨Nat.le_of_ble_eq_true rfl, Nat.le_of_ble_eq_true rfl⟩ (sum8 rfl) kd_98 er1 ?_
  exact g_iret X d_RO_ballotsOfHeadOut_8 hr hk9 hf
section
variable {R : Room} {kc ks : Nat} {Q : State → Prop} {nL : Nat} {cc : ByteArray} {own : String} {pc : Nat} {lv lv' : List (Nat × Value)} {st : List Value}
theorem ca_RO_ballotsOfHeadOut {x1 : Int32} (X : Cx Γ p R s m args c cc nL own kc ks) {idx : Nat} (hd : decode cc pc = .ok (.invokevirtual idx, 3)) (hlk : Cond.methodLink own idx y_RO_ballotsOfHeadOut ∈ lw_gt) (hR : 1 + 1 ≤ R.frames ∧ 8 + (2 + 11) + 21 ≤ R.locals) (hw : (st.map fun v => v.category).sum ≤ 8) {σ σ' : Sg} {r : Int32} (hf : f_RO_ballotsOfHeadOut x1 σ = some (r, σ')) (k : G Γ p l e R s m args below meth c kc ks Q nL (pc + 3) lv (.int r :: st) σ') : G Γ p l e R s m args below meth c kc ks Q nL pc lv (.int x1 :: .ref (Γ.2.2.1 93) :: st) σ :=
  g_callV (As := [.int x1]) (rest := st) X hd (c_RO_ballotsOfHeadOut' hf) co_RO_ballotsOfHeadOut hlk wn_RO_ballotsOfHeadOut wse_RO_ballotsOfHeadOut (by decide) kd_93 rfl hR rfl rfl hw k
end
set_option maxRecDepth 10000 in
theorem c_RO_headOut' {Γ : Gm} {l : Launch} {x1 : Int32} {σ σ' : Sg} {r : Int32} (hf : f_RO_headOut x1 σ = some (r, σ')) : Ctr Γ l y_RO_headOut c_RO_headOut 2 (some .int) 1 21 [.ref (Γ.2.2.1 93), .int x1] σ σ' (some (.int r)) := by
  refine Ctr.of (lv := [(0, .ref (Γ.2.2.1 93)), (1, .int x1)]) (by decide +kernel) (Nat.le_of_ble_eq_true rfl) rfl ?_
  intro p e s m args below meth c X hr hk9
  have X : Cx Γ p (z_rm 1 21) s m args c c_RO_headOut 2 "CaptionTallies$Rounds" 0 0 := X
  rw [f_RO_headOut] at hf
  refine g_aload_n X d_RO_headOut_0 0 rfl ?_
  refine gf_93_3 X d_RO_headOut_1 wl_RO_22 ?_
  refine g_iload_n X d_RO_headOut_4 1 rfl ?_
  obtain ⟨r1, σ2, er1, hf⟩ := bd_some hf
  refine can_CT_at X d_RO_headOut_5 wl_RO_108 ⟨Nat.le_of_ble_eq_true rfl, Nat.le_of_ble_eq_true rfl⟩ (sum8 rfl) kd_97 er1 ?_
  exact g_iret X d_RO_headOut_8 hr hk9 hf
section
variable {R : Room} {kc ks : Nat} {Q : State → Prop} {nL : Nat} {cc : ByteArray} {own : String} {pc : Nat} {lv lv' : List (Nat × Value)} {st : List Value}
theorem ca_RO_headOut {x1 : Int32} (X : Cx Γ p R s m args c cc nL own kc ks) {idx : Nat} (hd : decode cc pc = .ok (.invokevirtual idx, 3)) (hlk : Cond.methodLink own idx y_RO_headOut ∈ lw_gt) (hR : 1 + 1 ≤ R.frames ∧ 8 + (2 + 11) + 21 ≤ R.locals) (hw : (st.map fun v => v.category).sum ≤ 8) {σ σ' : Sg} {r : Int32} (hf : f_RO_headOut x1 σ = some (r, σ')) (k : G Γ p l e R s m args below meth c kc ks Q nL (pc + 3) lv (.int r :: st) σ') : G Γ p l e R s m args below meth c kc ks Q nL pc lv (.int x1 :: .ref (Γ.2.2.1 93) :: st) σ :=
  g_callV (As := [.int x1]) (rest := st) X hd (c_RO_headOut' hf) co_RO_headOut hlk wn_RO_headOut wse_RO_headOut (by decide) kd_93 rfl hR rfl rfl hw k
end
set_option maxRecDepth 10000 in
theorem c_RO_number' {Γ : Gm} {l : Launch} {σ σ' : Sg} {r : Int32} (hf : f_RO_number σ = some (r, σ')) : Ctr Γ l y_RO_number c_RO_number 1 (some .int) 0 0 [.ref (Γ.2.2.1 93)] σ σ' (some (.int r)) := by
  refine Ctr.of (lv := [(0, .ref (Γ.2.2.1 93))]) (by decide +kernel) (Nat.le_of_ble_eq_true rfl) rfl ?_
  intro p e s m args below meth c X hr hk9
  have X : Cx Γ p (z_rm 0 0) s m args c c_RO_number 1 "CaptionTallies$Rounds" 0 0 := X
  rw [f_RO_number] at hf
  refine g_aload_n X d_RO_number_0 0 rfl ?_
  refine gf_93_6 X d_RO_number_1 wl_RO_31 ?_
  exact g_iret X d_RO_number_4 hr hk9 hf
section
variable {R : Room} {kc ks : Nat} {Q : State → Prop} {nL : Nat} {cc : ByteArray} {own : String} {pc : Nat} {lv lv' : List (Nat × Value)} {st : List Value}
theorem ca_RO_number (X : Cx Γ p R s m args c cc nL own kc ks) {idx : Nat} (hd : decode cc pc = .ok (.invokevirtual idx, 3)) (hlk : Cond.methodLink own idx y_RO_number ∈ lw_gt) (hR : 0 + 1 ≤ R.frames ∧ 8 + (1 + 11) + 0 ≤ R.locals) (hw : (st.map fun v => v.category).sum ≤ 8) {σ σ' : Sg} {r : Int32} (hf : f_RO_number σ = some (r, σ')) (k : G Γ p l e R s m args below meth c kc ks Q nL (pc + 3) lv (.int r :: st) σ') : G Γ p l e R s m args below meth c kc ks Q nL pc lv (.ref (Γ.2.2.1 93) :: st) σ :=
  g_callV (As := []) (rest := st) X hd (c_RO_number' hf) co_RO_number hlk wn_RO_number wse_RO_number (by decide) kd_93 rfl hR rfl rfl hw k
end
end ZM1
