section ZM3
variable {Γ : Gm} {p : Program} {l : Launch} {e : Env} {s : State} {m : MethodId} {args : Array Value} {below : List Frame} {meth : Method} {c : Code}
set_option maxRecDepth 10000 in
theorem w_MO_counts_107 {K12 : Int32 → Int32 → Int32 → Sg → Option (Int32 × Sg)} {r : Int32} {σ' : Sg} (X : Cx Γ p (z_rm 2 43) s m args c c_MO_counts 7 "CaptionTalliesModel" 0 0) (hr : meth.sig.returnType = none) (hk9 : meth.locks = false) (hK12 : ∀ (x1 : Int32) (x2 : Int32) (x3 : Int32) (σ : Sg), K12 x1 x2 x3 σ = some (r, σ') → G Γ p l e (z_rm 2 43) s m args below meth c 0 0 (MQ below (Qx Γ none σ') args s 0 0 (fun q : Nat => Γ.2.2.2 ≤ q)) 7 12 [(0, .ref (Γ.2.2.1 112)), (1, .int x1), (2, .int x2), (3, .int x3)] [] σ)  (x1 : Int32) (x2 : Int32) (x3 : Int32) (x4 : Int32) (x5 : Int32) (σ : Sg) (hf : f_MO_counts_107 K12 x1 x2 x3 x4 x5 σ = some (r, σ')) : G Γ p l e (z_rm 2 43) s m args below meth c 0 0 (MQ below (Qx Γ none σ') args s 0 0 (fun q : Nat => Γ.2.2.2 ≤ q)) 7 107 [(0, .ref (Γ.2.2.1 112)), (1, .int x1), (2, .int x2), (3, .int x3), (4, .int x4), (5, .int x5)] [] σ := by
  rw [f_MO_counts_107] at hf
  refine g_iload X d_MO_counts_107 5 rfl ?_
  refine g_if_eq X d_MO_counts_109 127 (by decide) (fun q1 => ?_) (fun q1 => ?_)
  · have hf := ite_t q1 hf
    refine g_iinc X d_MO_counts_127 (j := 3) (lv' := [(3, .int (x3 + (nI 1))), (0, .ref (Γ.2.2.1 112)), (1, .int x1), (2, .int x2), (4, .int x4), (5, .int x5)]) rfl rfl (Nat.le_of_ble_eq_true rfl) rfl ?_
    refine g_goto X d_MO_counts_130 12 (by decide) ?_
    refine g_sub [1, 2, 3, 0] rfl ?_
    exact hK12 _ _ _ _ hf
  · have hf := ite_f q1 hf
    refine g_aload_n X d_MO_counts_112 0 rfl ?_
    refine gf_112_18 X d_MO_counts_113 wl_MO_55 ?_
    refine g_iconst X d_MO_counts_116 (v := (nI 3)) rfl ?_
    refine g_iload_n X d_MO_counts_117 1 rfl ?_
    refine g_imul X d_MO_counts_118 ?_
    refine g_iload_n X d_MO_counts_119 2 rfl ?_
    refine g_iadd X d_MO_counts_120 ?_
    refine g_iload X d_MO_counts_121 4 rfl ?_
    obtain ⟨b2, hf⟩ := gd_some hf
    obtain ⟨σ3, eσ3, hf⟩ := lt_ex hf
    refine g_iast X d_MO_counts_123 kd_128 b2 eσ3 ?_
    refine g_iinc X d_MO_counts_124 (j := 2) (lv' := [(2, .int (x2 + (nI 1))), (0, .ref (Γ.2.2.1 112)), (1, .int x1), (3, .int x3), (4, .int x4), (5, .int x5)]) rfl rfl (Nat.le_of_ble_eq_true rfl) rfl ?_
    refine g_iinc X d_MO_counts_127 (j := 3) (lv' := [(3, .int (x3 + (nI 1))), (2, .int (x2 + (nI 1))), (0, .ref (Γ.2.2.1 112)), (1, .int x1), (4, .int x4), (5, .int x5)]) rfl rfl (Nat.le_of_ble_eq_true rfl) rfl ?_
    refine g_goto X d_MO_counts_130 12 (by decide) ?_
    refine g_sub [2, 3, 1, 0] rfl ?_
    exact hK12 _ _ _ _ hf
set_option maxRecDepth 10000 in
theorem w_MO_counts_57 {K12 : Int32 → Int32 → Int32 → Sg → Option (Int32 × Sg)} {r : Int32} {σ' : Sg} (X : Cx Γ p (z_rm 2 43) s m args c c_MO_counts 7 "CaptionTalliesModel" 0 0) (hr : meth.sig.returnType = none) (hk9 : meth.locks = false) (hK12 : ∀ (x1 : Int32) (x2 : Int32) (x3 : Int32) (σ : Sg), K12 x1 x2 x3 σ = some (r, σ') → G Γ p l e (z_rm 2 43) s m args below meth c 0 0 (MQ below (Qx Γ none σ') args s 0 0 (fun q : Nat => Γ.2.2.2 ≤ q)) 7 12 [(0, .ref (Γ.2.2.1 112)), (1, .int x1), (2, .int x2), (3, .int x3)] [] σ) : ∀ (n9 : Nat) (x1 : Int32) (x2 : Int32) (x3 : Int32) (x4 : Int32) (x5 : Int32) (x6 : Int32) (σ : Sg), f_MO_counts_57 K12 n9 x1 x2 x3 x4 x5 x6 σ = some (r, σ') → G Γ p l e (z_rm 2 43) s m args below meth c 0 0 (MQ below (Qx Γ none σ') args s 0 0 (fun q : Nat => Γ.2.2.2 ≤ q)) 7 57 [(0, .ref (Γ.2.2.1 112)), (1, .int x1), (2, .int x2), (3, .int x3), (4, .int x4), (5, .int x5), (6, .int x6)] [] σ := by
  intro n9
  induction n9 with
  | zero => intro x1 x2 x3 x4 x5 x6 σ hf; cases hf
  | succ n9 ih =>
    intro x1 x2 x3 x4 x5 x6 σ hf
    rw [f_MO_counts_57] at hf
    refine g_iload X d_MO_counts_57 6 rfl ?_
    refine g_iload_n X d_MO_counts_59 2 rfl ?_
    refine g_ic_ge X d_MO_counts_60 107 (by decide) (fun q1 => ?_) (fun q1 => ?_)
    · have hf := ite_t q1 hf
      refine g_sub [0, 1, 2, 3, 4, 5] rfl ?_
      exact w_MO_counts_107 X hr hk9 hK12 _ _ _ _ _ _ hf
    · have hf := ite_f q1 hf
      refine g_iload X d_MO_counts_63 5 rfl ?_
      refine g_if_eq X d_MO_counts_65 107 (by decide) (fun q2 => ?_) (fun q2 => ?_)
      · have hf := ite_t q2 hf
        refine g_sub [0, 1, 2, 3, 4, 5] rfl ?_
        exact w_MO_counts_107 X hr hk9 hK12 _ _ _ _ _ _ hf
      · have hf := ite_f q2 hf
        refine g_aload_n X d_MO_counts_68 0 rfl ?_
        refine gf_112_7 X d_MO_counts_69 wl_MO_22 ?_
        refine g_aload_n X d_MO_counts_72 0 rfl ?_
        refine gf_112_18 X d_MO_counts_73 wl_MO_55 ?_
        refine g_iconst X d_MO_counts_76 (v := (nI 3)) rfl ?_
        refine g_iload_n X d_MO_counts_77 1 rfl ?_
        refine g_imul X d_MO_counts_78 ?_
        refine g_iload X d_MO_counts_79 6 rfl ?_
        refine g_iadd X d_MO_counts_81 ?_
        obtain ⟨b3, hf⟩ := gd_some hf
        refine g_iald X d_MO_counts_82 kd_128 b3 ?_
        obtain ⟨b4, hf⟩ := gd_some hf
        refine g_iald X d_MO_counts_83 kd_117 b4 ?_
        refine g_aload_n X d_MO_counts_84 0 rfl ?_
        refine gf_112_7 X d_MO_counts_85 wl_MO_22 ?_
        refine g_iload X d_MO_counts_88 4 rfl ?_
        obtain ⟨b5, hf⟩ := gd_some hf
        refine g_iald X d_MO_counts_90 kd_117 b5 ?_
        refine g_ic_eq X d_MO_counts_91 98 (by decide) (fun q6 => ?_) (fun q6 => ?_)
        · have hf := ite_t q6 hf
          refine g_iconst X d_MO_counts_98 (v := (nI 0)) rfl ?_
          refine g_istore X d_MO_counts_99 (lv' := [(5, .int (nI 0)), (0, .ref (Γ.2.2.1 112)), (1, .int x1), (2, .int x2), (3, .int x3), (4, .int x4), (6, .int x6)]) (Nat.le_of_ble_eq_true rfl) rfl ?_
          refine g_iinc X d_MO_counts_101 (j := 6) (lv' := [(6, .int (x6 + (nI 1))), (5, .int (nI 0)), (0, .ref (Γ.2.2.1 112)), (1, .int x1), (2, .int x2), (3, .int x3), (4, .int x4)]) rfl rfl (Nat.le_of_ble_eq_true rfl) rfl ?_
          refine g_goto X d_MO_counts_104 57 (by decide) ?_
          refine g_sub [2, 3, 4, 5, 6, 1, 0] rfl ?_
          exact ih _ _ _ _ _ _ _ hf
        · have hf := ite_f q6 hf
          refine g_iconst X d_MO_counts_94 (v := (nI 1)) rfl ?_
          refine g_goto X d_MO_counts_95 99 (by decide) ?_
          refine g_istore X d_MO_counts_99 (lv' := [(5, .int (nI 1)), (0, .ref (Γ.2.2.1 112)), (1, .int x1), (2, .int x2), (3, .int x3), (4, .int x4), (6, .int x6)]) (Nat.le_of_ble_eq_true rfl) rfl ?_
          refine g_iinc X d_MO_counts_101 (j := 6) (lv' := [(6, .int (x6 + (nI 1))), (5, .int (nI 1)), (0, .ref (Γ.2.2.1 112)), (1, .int x1), (2, .int x2), (3, .int x3), (4, .int x4)]) rfl rfl (Nat.le_of_ble_eq_true rfl) rfl ?_
          refine g_goto X d_MO_counts_104 57 (by decide) ?_
          refine g_sub [2, 3, 4, 5, 6, 1, 0] rfl ?_
          exact ih _ _ _ _ _ _ _ hf
set_option maxRecDepth 10000 in
theorem w_MO_counts_12 {K2 : Int32 → Sg → Option (Int32 × Sg)} {r : Int32} {σ' : Sg} (X : Cx Γ p (z_rm 2 43) s m args c c_MO_counts 7 "CaptionTalliesModel" 0 0) (hr : meth.sig.returnType = none) (hk9 : meth.locks = false) (hK2 : ∀ (x1 : Int32) (σ : Sg), K2 x1 σ = some (r, σ') → G Γ p l e (z_rm 2 43) s m args below meth c 0 0 (MQ below (Qx Γ none σ') args s 0 0 (fun q : Nat => Γ.2.2.2 ≤ q)) 7 2 [(0, .ref (Γ.2.2.1 112)), (1, .int x1)] [] σ) : ∀ (n9 : Nat) (x1 : Int32) (x2 : Int32) (x3 : Int32) (σ : Sg), f_MO_counts_12 K2 n9 x1 x2 x3 σ = some (r, σ') → G Γ p l e (z_rm 2 43) s m args below meth c 0 0 (MQ below (Qx Γ none σ') args s 0 0 (fun q : Nat => Γ.2.2.2 ≤ q)) 7 12 [(0, .ref (Γ.2.2.1 112)), (1, .int x1), (2, .int x2), (3, .int x3)] [] σ := by
  intro n9
  induction n9 with
  | zero => intro x1 x2 x3 σ hf; cases hf
  | succ n9 ih =>
    intro x1 x2 x3 σ hf
    rw [f_MO_counts_12] at hf
    refine g_iload_n X d_MO_counts_12 3 rfl ?_
    refine g_iconst X d_MO_counts_13 (v := (nI 3)) rfl ?_
    refine g_ic_ge X d_MO_counts_14 133 (by decide) (fun q1 => ?_) (fun q1 => ?_)
    · have hf := ite_t q1 hf
      refine g_iinc X d_MO_counts_133 (j := 1) (lv' := [(1, .int (x1 + (nI 1))), (0, .ref (Γ.2.2.1 112)), (2, .int x2), (3, .int x3)]) rfl rfl (Nat.le_of_ble_eq_true rfl) rfl ?_
      refine g_goto X d_MO_counts_136 2 (by decide) ?_
      refine g_sub [1, 0] rfl ?_
      exact hK2 _ _ hf
    · have hf := ite_f q1 hf
      refine g_aload_n X d_MO_counts_17 0 rfl ?_
      refine gf_112_18 X d_MO_counts_18 wl_MO_55 ?_
      refine g_iconst X d_MO_counts_21 (v := (nI 3)) rfl ?_
      refine g_iload_n X d_MO_counts_22 1 rfl ?_
      refine g_imul X d_MO_counts_23 ?_
      refine g_iload_n X d_MO_counts_24 3 rfl ?_
      refine g_iadd X d_MO_counts_25 ?_
      refine g_iconst X d_MO_counts_26 (v := (-1)) rfl ?_
      obtain ⟨b2, hf⟩ := gd_some hf
      obtain ⟨σ3, eσ3, hf⟩ := lt_ex hf
      refine g_iast X d_MO_counts_27 kd_128 b2 eσ3 ?_
      refine g_aload_n X d_MO_counts_28 0 rfl ?_
      refine gf_112_0 X d_MO_counts_29 wl_MO_7 ?_
      refine g_sipush X d_MO_counts_32 (v := (nI 1289)) rfl ?_
      refine g_iconst X d_MO_counts_35 (v := (nI 3)) rfl ?_
      refine g_iload_n X d_MO_counts_36 1 rfl ?_
      refine g_imul X d_MO_counts_37 ?_
      refine g_iadd X d_MO_counts_38 ?_
      refine g_iload_n X d_MO_counts_39 3 rfl ?_
      refine g_iadd X d_MO_counts_40 ?_
      obtain ⟨b4, hf⟩ := gd_some hf
      refine g_iald X d_MO_counts_41 kd_113 b4 ?_
      refine g_iconst X d_MO_counts_42 (v := (nI 1)) rfl ?_
      refine g_isub X d_MO_counts_43 ?_
      obtain ⟨v5, ev5, hf⟩ := lt_ex hf
      refine g_top ev5 ?_
      refine g_istore X d_MO_counts_44 (lv' := [(4, .int v5), (0, .ref (Γ.2.2.1 112)), (1, .int x1), (2, .int x2), (3, .int x3)]) (Nat.le_of_ble_eq_true rfl) rfl ?_
      refine g_aload_n X d_MO_counts_46 1 rfl ?_
      refine g_iload X d_MO_counts_47 0 rfl ?_
      obtain ⟨r6, σ7, er6, hf⟩ := bd_some hf
      refine ca_MO_is X d_MO_counts_49 wl_MO_96 ⟨Nat.le_of_ble_eq_true rfl, Nat.le_of_ble_eq_true rfl⟩ (sum8 rfl) er6 ?_
      refine g_istore X d_MO_counts_52 (lv' := [(5, .int r6), (4, .int v5), (0, .ref (Γ.2.2.1 112)), (1, .int x1), (2, .int x2), (3, .int x3)]) (Nat.le_of_ble_eq_true rfl) rfl ?_
      refine g_iconst X d_MO_counts_54 (v := (nI 0)) rfl ?_
      refine g_istore X d_MO_counts_55 (lv' := [(6, .int (nI 0)), (5, .int r6), (4, .int v5), (0, .ref (Γ.2.2.1 112)), (1, .int x1), (2, .int x2), (3, .int x3)]) (Nat.le_of_ble_eq_true rfl) rfl ?_
      refine g_sub [3, 4, 5, 6, 2, 1, 0] rfl ?_
      exact w_MO_counts_57 X hr hk9 ih _ _ _ _ _ _ _ _ hf
set_option maxRecDepth 10000 in
theorem w_MO_counts_2 {r : Int32} {σ' : Sg} (X : Cx Γ p (z_rm 2 43) s m args c c_MO_counts 7 "CaptionTalliesModel" 0 0) (hr : meth.sig.returnType = none) (hk9 : meth.locks = false) : ∀ (n9 : Nat) (x1 : Int32) (σ : Sg), f_MO_counts_2 n9 x1 σ = some (r, σ') → G Γ p l e (z_rm 2 43) s m args below meth c 0 0 (MQ below (Qx Γ none σ') args s 0 0 (fun q : Nat => Γ.2.2.2 ≤ q)) 7 2 [(0, .ref (Γ.2.2.1 112)), (1, .int x1)] [] σ := by
  intro n9
  induction n9 with
  | zero => intro x1 σ hf; cases hf
  | succ n9 ih =>
    intro x1 σ hf
    rw [f_MO_counts_2] at hf
    refine g_iload_n X d_MO_counts_2 1 rfl ?_
    refine g_bipush X d_MO_counts_3 (v := (nI 12)) rfl ?_
    refine g_ic_ge X d_MO_counts_5 139 (by decide) (fun q1 => ?_) (fun q1 => ?_)
    · have hf := ite_t q1 hf
      exact g_vret X d_MO_counts_139 hr hk9 hf
    · have hf := ite_f q1 hf
      refine g_iconst X d_MO_counts_8 (v := (nI 0)) rfl ?_
      refine g_istore_n X d_MO_counts_9 rfl (lv' := [(2, .int (nI 0)), (0, .ref (Γ.2.2.1 112)), (1, .int x1)]) (Nat.le_of_ble_eq_true rfl) rfl ?_
      refine g_iconst X d_MO_counts_10 (v := (nI 0)) rfl ?_
      refine g_istore_n X d_MO_counts_11 rfl (lv' := [(3, .int (nI 0)), (2, .int (nI 0)), (0, .ref (Γ.2.2.1 112)), (1, .int x1)]) (Nat.le_of_ble_eq_true rfl) rfl ?_
      refine g_sub [2, 3, 1, 0] rfl ?_
      exact w_MO_counts_12 X hr hk9 ih _ _ _ _ _ hf
set_option maxRecDepth 10000 in
theorem c_MO_counts' {Γ : Gm} {l : Launch} {σ σ' : Sg} {r : Int32} (hf : f_MO_counts σ = some (r, σ')) : Ctr Γ l y_MO_counts c_MO_counts 7 none 2 43 [.ref (Γ.2.2.1 112)] σ σ' none := by
  refine Ctr.of (lv := [(0, .ref (Γ.2.2.1 112))]) (by decide +kernel) (Nat.le_of_ble_eq_true rfl) rfl ?_
  intro p e s m args below meth c X hr hk9
  have X : Cx Γ p (z_rm 2 43) s m args c c_MO_counts 7 "CaptionTalliesModel" 0 0 := X
  rw [f_MO_counts] at hf
  refine g_iconst X d_MO_counts_0 (v := (nI 0)) rfl ?_
  refine g_istore_n X d_MO_counts_1 rfl (lv' := [(1, .int (nI 0)), (0, .ref (Γ.2.2.1 112))]) (Nat.le_of_ble_eq_true rfl) rfl ?_
  refine g_sub [1, 0] rfl ?_
  exact w_MO_counts_2 X hr hk9 _ _ _ hf
section
variable {R : Room} {kc ks : Nat} {Q : State → Prop} {nL : Nat} {cc : ByteArray} {own : String} {pc : Nat} {lv lv' : List (Nat × Value)} {st : List Value}
theorem ca_MO_counts (X : Cx Γ p R s m args c cc nL own kc ks) {idx : Nat} (hd : decode cc pc = .ok (.invokevirtual idx, 3)) (hlk : Cond.methodLink own idx y_MO_counts ∈ lw_gt) (hR : 2 + 1 ≤ R.frames ∧ 8 + (7 + 11) + 43 ≤ R.locals) (hw : (st.map fun v => v.category).sum ≤ 8) {σ σ' : Sg} {r : Int32} (hf : f_MO_counts σ = some (r, σ')) (k : G Γ p l e R s m args below meth c kc ks Q nL (pc + 3) lv (st) σ') : G Γ p l e R s m args below meth c kc ks Q nL pc lv (.ref (Γ.2.2.1 112) :: st) σ :=
  g_callV (As := []) (rest := st) X hd (c_MO_counts' hf) co_MO_counts hlk wn_MO_counts wse_MO_counts (by decide) kd_112 rfl hR rfl rfl hw k
end
set_option maxRecDepth 10000 in
theorem w_MO_most_5 {r : Int32} {σ' : Sg} (X : Cx Γ p (z_rm 0 0) s m args c c_MO_most 6 "CaptionTalliesModel" 0 0) (hr : meth.sig.returnType = (some .int)) (hk9 : meth.locks = false) : ∀ (n9 : Nat) (x1 : Int32) (x2 : Int32) (x3 : Int32) (x4 : Int32) (σ : Sg), f_MO_most_5 n9 x1 x2 x3 x4 σ = some (r, σ') → G Γ p l e (z_rm 0 0) s m args below meth c 0 0 (MQ below (Qx Γ (some (.int r)) σ') args s 0 0 (fun q : Nat => Γ.2.2.2 ≤ q)) 6 5 [(0, .ref (Γ.2.2.1 112)), (1, .int x1), (2, .int x2), (3, .int x3), (4, .int x4)] [] σ := by
  intro n9
  induction n9 with
  | zero => intro x1 x2 x3 x4 σ hf; cases hf
  | succ n9 ih =>
    intro x1 x2 x3 x4 σ hf
    rw [f_MO_most_5] at hf
    refine g_iload X d_MO_most_5 4 rfl ?_
    refine g_aload_n X d_MO_most_7 0 rfl ?_
    refine gf_112_0 X d_MO_most_8 wl_MO_7 ?_
    refine g_iconst X d_MO_most_11 (v := (nI 0)) rfl ?_
    obtain ⟨b1, hf⟩ := gd_some hf
    refine g_iald X d_MO_most_12 kd_113 b1 ?_
    refine g_ic_ge X d_MO_most_13 66 (by decide) (fun q2 => ?_) (fun q2 => ?_)
    · have hf := ite_t q2 hf
      refine g_iload_n X d_MO_most_66 3 rfl ?_
      exact g_iret X d_MO_most_67 hr hk9 hf
    · have hf := ite_f q2 hf
      refine g_aload_n X d_MO_most_16 0 rfl ?_
      refine gf_112_0 X d_MO_most_17 wl_MO_7 ?_
      refine g_sipush X d_MO_most_20 (v := (nI 1325)) rfl ?_
      refine g_bipush X d_MO_most_23 (v := (nI 20)) rfl ?_
      refine g_iload_n X d_MO_most_25 1 rfl ?_
      refine g_imul X d_MO_most_26 ?_
      refine g_iadd X d_MO_most_27 ?_
      refine g_iload X d_MO_most_28 4 rfl ?_
      refine g_iadd X d_MO_most_30 ?_
      obtain ⟨b3, hf⟩ := gd_some hf
      refine g_iald X d_MO_most_31 kd_113 b3 ?_
      refine g_iconst X d_MO_most_32 (v := (nI 1)) rfl ?_
      refine g_isub X d_MO_most_33 ?_
      obtain ⟨v4, ev4, hf⟩ := lt_ex hf
      refine g_top ev4 ?_
      refine g_istore X d_MO_most_34 (lv' := [(5, .int v4), (0, .ref (Γ.2.2.1 112)), (1, .int x1), (2, .int x2), (3, .int x3), (4, .int x4)]) (Nat.le_of_ble_eq_true rfl) rfl ?_
      refine g_aload_n X d_MO_most_36 1 rfl ?_
      refine gf_112_7 X d_MO_most_37 wl_MO_22 ?_
      refine g_iload X d_MO_most_40 5 rfl ?_
      obtain ⟨b5, hf⟩ := gd_some hf
      refine g_iald X d_MO_most_42 kd_117 b5 ?_
      refine g_iload_n X d_MO_most_43 3 rfl ?_
      refine g_ic_ne X d_MO_most_44 58 (by decide) (fun q6 => ?_) (fun q6 => ?_)
      · have hf := ite_f q6 hf
        refine g_iload_n X d_MO_most_58 4 rfl ?_
        refine g_istore_n X d_MO_most_59 rfl (lv' := [(3, .int x3), (5, .int v4), (0, .ref (Γ.2.2.1 112)), (1, .int x1), (2, .int x2), (4, .int x4)]) (Nat.le_of_ble_eq_true rfl) rfl ?_
        refine g_iinc X d_MO_most_60 (j := 5) (lv' := [(4, .int (x4 + (nI 1))), (3, .int x3), (5, .int v4), (0, .ref (Γ.2.2.1 112)), (1, .int x1), (2, .int x2)]) rfl rfl (Nat.le_of_ble_eq_true rfl) rfl ?_
        refine g_goto X d_MO_most_63 5 (by decide) ?_
        refine g_sub [3, 4, 5, 1, 0] rfl ?_
        exact ih _ _ _ _ _ hf
      · have hf := ite_t q6 hf
        refine g_iload X d_MO_most_47 0 rfl ?_
        refine g_iload_n X d_MO_most_49 4 rfl ?_
        refine g_ic_le X d_MO_most_50 58 (by decide) (fun q7 => ?_) (fun q7 => ?_)
        · have hf := ite_t q7 hf
          refine g_iload_n X d_MO_most_58 4 rfl ?_
          refine g_istore_n X d_MO_most_59 rfl (lv' := [(3, .int x3), (5, .int v4), (0, .ref (Γ.2.2.1 112)), (1, .int x1), (2, .int x2), (4, .int x4)]) (Nat.le_of_ble_eq_true rfl) rfl ?_
          refine g_iinc X d_MO_most_60 (j := 5) (lv' := [(4, .int (x4 + (nI 1))), (3, .int x3), (5, .int v4), (0, .ref (Γ.2.2.1 112)), (1, .int x1), (2, .int x2)]) rfl rfl (Nat.le_of_ble_eq_true rfl) rfl ?_
          refine g_goto X d_MO_most_63 5 (by decide) ?_
          refine g_sub [3, 4, 5, 1, 0] rfl ?_
          exact ih _ _ _ _ _ hf
        · have hf := ite_f q7 hf
          refine g_iload X d_MO_most_53 0 rfl ?_
          refine g_goto X d_MO_most_55 59 (by decide) ?_
          refine g_istore_n X d_MO_most_59 rfl (lv' := [(3, .int v4), (5, .int v4), (0, .ref (Γ.2.2.1 112)), (1, .int x1), (2, .int x2), (4, .int x4)]) (Nat.le_of_ble_eq_true rfl) rfl ?_
          refine g_iinc X d_MO_most_60 (j := 5) (lv' := [(4, .int (x4 + (nI 1))), (3, .int v4), (5, .int v4), (0, .ref (Γ.2.2.1 112)), (1, .int x1), (2, .int x2)]) rfl rfl (Nat.le_of_ble_eq_true rfl) rfl ?_
          refine g_goto X d_MO_most_63 5 (by decide) ?_
          refine g_sub [3, 4, 5, 1, 0] rfl ?_
          exact ih _ _ _ _ _ hf
set_option maxRecDepth 10000 in
theorem c_MO_most' {Γ : Gm} {l : Launch} {x1 : Int32} {x2 : Int32} {σ σ' : Sg} {r : Int32} (hf : f_MO_most x1 x2 σ = some (r, σ')) : Ctr Γ l y_MO_most c_MO_most 6 (some .int) 0 0 [.ref (Γ.2.2.1 112), .int x1, .int x2] σ σ' (some (.int r)) := by
  refine Ctr.of (lv := [(0, .ref (Γ.2.2.1 112)), (1, .int x1), (2, .int x2)]) (by decide +kernel) (Nat.le_of_ble_eq_true rfl) rfl ?_
  intro p e s m args below meth c X hr hk9
  have X : Cx Γ p (z_rm 0 0) s m args c c_MO_most 6 "CaptionTalliesModel" 0 0 := X
  rw [f_MO_most] at hf
  refine g_iconst X d_MO_most_0 (v := (nI 0)) rfl ?_
  refine g_istore_n X d_MO_most_1 rfl (lv' := [(3, .int (nI 0)), (0, .ref (Γ.2.2.1 112)), (1, .int x1), (2, .int x2)]) (Nat.le_of_ble_eq_true rfl) rfl ?_
  refine g_iconst X d_MO_most_2 (v := (nI 0)) rfl ?_
  refine g_istore X d_MO_most_3 (lv' := [(4, .int (nI 0)), (3, .int (nI 0)), (0, .ref (Γ.2.2.1 112)), (1, .int x1), (2, .int x2)]) (Nat.le_of_ble_eq_true rfl) rfl ?_
  refine g_sub [2, 3, 4, 1, 0] rfl ?_
  exact w_MO_most_5 X hr hk9 _ _ _ _ _ _ hf
section
variable {R : Room} {kc ks : Nat} {Q : State → Prop} {nL : Nat} {cc : ByteArray} {own : String} {pc : Nat} {lv lv' : List (Nat × Value)} {st : List Value}
theorem ca_MO_most {x1 : Int32} {x2 : Int32} (X : Cx Γ p R s m args c cc nL own kc ks) {idx : Nat} (hd : decode cc pc = .ok (.invokevirtual idx, 3)) (hlk : Cond.methodLink own idx y_MO_most ∈ lw_gt) (hR : 0 + 1 ≤ R.frames ∧ 8 + (6 + 11) + 0 ≤ R.locals) (hw : (st.map fun v => v.category).sum ≤ 8) {σ σ' : Sg} {r : Int32} (hf : f_MO_most x1 x2 σ = some (r, σ')) (k : G Γ p l e R s m args below meth c kc ks Q nL (pc + 3) lv (.int r :: st) σ') : G Γ p l e R s m args below meth c kc ks Q nL pc lv (.int x2 :: .int x1 :: .ref (Γ.2.2.1 112) :: st) σ :=
  g_callV (As := [.int x1, .int x2]) (rest := st) X hd (c_MO_most' hf) co_MO_most hlk wn_MO_most wse_MO_most (by decide) kd_112 rfl hR rfl rfl hw k
end
set_option maxRecDepth 10000 in
theorem w_MO_rank_13 {r : Int32} {σ' : Sg} (X : Cx Γ p (z_rm 1 25) s m args c c_MO_rank 6 "CaptionTalliesModel" 0 0) (hr : meth.sig.returnType = (some .int)) (hk9 : meth.locks = false) : ∀ (n9 : Nat) (x1 : Int32) (x3 : Int32) (x4 : Int32) (x5 : Int32) (σ : Sg), f_MO_rank_13 n9 x1 x3 x4 x5 σ = some (r, σ') → G Γ p l e (z_rm 1 25) s m args below meth c 0 0 (MQ below (Qx Γ (some (.int r)) σ') args s 0 0 (fun q : Nat => Γ.2.2.2 ≤ q)) 6 13 [(0, .ref (Γ.2.2.1 112)), (1, .int x1), (3, .int x3), (4, .int x4), (5, .int x5)] [] σ := by
  intro n9
  induction n9 with
  | zero => intro x1 x3 x4 x5 σ hf; cases hf
  | succ n9 ih =>
    intro x1 x3 x4 x5 σ hf
    rw [f_MO_rank_13] at hf
    refine g_iload X d_MO_rank_13 4 rfl ?_
    refine g_aload_n X d_MO_rank_15 0 rfl ?_
    refine gf_112_0 X d_MO_rank_16 wl_MO_7 ?_
    refine g_iconst X d_MO_rank_19 (v := (nI 0)) rfl ?_
    obtain ⟨b1, hf⟩ := gd_some hf
    refine g_iald X d_MO_rank_20 kd_113 b1 ?_
    refine g_ic_ge X d_MO_rank_21 59 (by decide) (fun q2 => ?_) (fun q2 => ?_)
    · have hf := ite_t q2 hf
      refine g_iload_n X d_MO_rank_59 2 rfl ?_
      exact g_iret X d_MO_rank_60 hr hk9 hf
    · have hf := ite_f q2 hf
      refine g_iload_n X d_MO_rank_24 2 rfl ?_
      refine g_aload_n X d_MO_rank_25 0 rfl ?_
      refine g_iload X d_MO_rank_26 4 rfl ?_
      obtain ⟨r3, σ4, er3, hf⟩ := bd_some hf
      refine ca_MO_isHead X d_MO_rank_28 wl_MO_109 ⟨Nat.le_of_ble_eq_true rfl, Nat.le_of_ble_eq_true rfl⟩ (sum8 rfl) er3 ?_
      refine g_if_eq X d_MO_rank_31 50 (by decide) (fun q5 => ?_) (fun q5 => ?_)
      · have hf := ite_t q5 hf
        refine g_iconst X d_MO_rank_50 (v := (nI 0)) rfl ?_
        refine g_iadd X d_MO_rank_51 ?_
        obtain ⟨v6, ev6, hf⟩ := lt_ex hf
        refine g_top ev6 ?_
        refine g_istore_n X d_MO_rank_52 rfl (lv' := [(3, .int v6), (0, .ref (Γ.2.2.1 112)), (1, .int x1), (4, .int x4), (5, .int x5)]) (Nat.le_of_ble_eq_true rfl) rfl ?_
        refine g_iinc X d_MO_rank_53 (j := 4) (lv' := [(5, .int (x5 + (nI 1))), (3, .int v6), (0, .ref (Γ.2.2.1 112)), (1, .int x1), (4, .int x4)]) rfl rfl (Nat.le_of_ble_eq_true rfl) rfl ?_
        refine g_goto X d_MO_rank_56 13 (by decide) ?_
        refine g_sub [2, 3, 1, 4, 0] rfl ?_
        exact ih _ _ _ _ _ hf
      · have hf := ite_f q5 hf
        refine g_aload_n X d_MO_rank_34 0 rfl ?_
        refine g_iload_n X d_MO_rank_35 1 rfl ?_
        refine g_iload X d_MO_rank_36 4 rfl ?_
        obtain ⟨r7, σ8, er7, hf⟩ := bd_some hf
        refine ca_MO_most X d_MO_rank_38 wl_MO_106 ⟨Nat.le_of_ble_eq_true rfl, Nat.le_of_ble_eq_true rfl⟩ (sum8 rfl) er7 ?_
        refine g_iload X d_MO_rank_41 3 rfl ?_
        refine g_ic_le X d_MO_rank_43 50 (by decide) (fun q9 => ?_) (fun q9 => ?_)
        · have hf := ite_t q9 hf
          refine g_iconst X d_MO_rank_50 (v := (nI 0)) rfl ?_
          refine g_iadd X d_MO_rank_51 ?_
          obtain ⟨v10, ev10, hf⟩ := lt_ex hf
          refine g_top ev10 ?_
          refine g_istore_n X d_MO_rank_52 rfl (lv' := [(3, .int v10), (0, .ref (Γ.2.2.1 112)), (1, .int x1), (4, .int x4), (5, .int x5)]) (Nat.le_of_ble_eq_true rfl) rfl ?_
          refine g_iinc X d_MO_rank_53 (j := 4) (lv' := [(5, .int (x5 + (nI 1))), (3, .int v10), (0, .ref (Γ.2.2.1 112)), (1, .int x1), (4, .int x4)]) rfl rfl (Nat.le_of_ble_eq_true rfl) rfl ?_
          refine g_goto X d_MO_rank_56 13 (by decide) ?_
          refine g_sub [2, 3, 1, 4, 0] rfl ?_
          exact ih _ _ _ _ _ hf
        · have hf := ite_f q9 hf
          refine g_iconst X d_MO_rank_46 (v := (nI 1)) rfl ?_
          refine g_goto X d_MO_rank_47 51 (by decide) ?_
          refine g_iadd X d_MO_rank_51 ?_
          obtain ⟨v11, ev11, hf⟩ := lt_ex hf
          refine g_top ev11 ?_
          refine g_istore_n X d_MO_rank_52 rfl (lv' := [(3, .int v11), (0, .ref (Γ.2.2.1 112)), (1, .int x1), (4, .int x4), (5, .int x5)]) (Nat.le_of_ble_eq_true rfl) rfl ?_
          refine g_iinc X d_MO_rank_53 (j := 4) (lv' := [(5, .int (x5 + (nI 1))), (3, .int v11), (0, .ref (Γ.2.2.1 112)), (1, .int x1), (4, .int x4)]) rfl rfl (Nat.le_of_ble_eq_true rfl) rfl ?_
          refine g_goto X d_MO_rank_56 13 (by decide) ?_
          refine g_sub [2, 3, 1, 4, 0] rfl ?_
          exact ih _ _ _ _ _ hf
set_option maxRecDepth 10000 in
theorem c_MO_rank' {Γ : Gm} {l : Launch} {x1 : Int32} {x2 : Int32} {σ σ' : Sg} {r : Int32} (hf : f_MO_rank x1 x2 σ = some (r, σ')) : Ctr Γ l y_MO_rank c_MO_rank 6 (some .int) 1 25 [.ref (Γ.2.2.1 112), .int x1, .int x2] σ σ' (some (.int r)) := by
  refine Ctr.of (lv := [(0, .ref (Γ.2.2.1 112)), (1, .int x1), (2, .int x2)]) (by decide +kernel) (Nat.le_of_ble_eq_true rfl) rfl ?_
  intro p e s m args below meth c X hr hk9
  have X : Cx Γ p (z_rm 1 25) s m args c c_MO_rank 6 "CaptionTalliesModel" 0 0 := X
  rw [f_MO_rank] at hf
  refine g_iconst X d_MO_rank_0 (v := (nI 1)) rfl ?_
  refine g_istore_n X d_MO_rank_1 rfl (lv' := [(3, .int (nI 1)), (0, .ref (Γ.2.2.1 112)), (1, .int x1), (2, .int x2)]) (Nat.le_of_ble_eq_true rfl) rfl ?_
  refine g_aload_n X d_MO_rank_2 1 rfl ?_
  refine g_iload_n X d_MO_rank_3 2 rfl ?_
  refine g_iload_n X d_MO_rank_4 3 rfl ?_
  obtain ⟨r1, σ2, er1, hf⟩ := bd_some hf
  refine ca_MO_most X d_MO_rank_5 wl_MO_106 ⟨Nat.le_of_ble_eq_true rfl, Nat.le_of_ble_eq_true rfl⟩ (sum8 rfl) er1 ?_
  refine g_istore X d_MO_rank_8 (lv' := [(4, .int r1), (3, .int (nI 1)), (0, .ref (Γ.2.2.1 112)), (1, .int x1), (2, .int x2)]) (Nat.le_of_ble_eq_true rfl) rfl ?_
  refine g_iconst X d_MO_rank_10 (v := (nI 0)) rfl ?_
  refine g_istore X d_MO_rank_11 (lv' := [(5, .int (nI 0)), (4, .int r1), (3, .int (nI 1)), (0, .ref (Γ.2.2.1 112)), (1, .int x1), (2, .int x2)]) (Nat.le_of_ble_eq_true rfl) rfl ?_
  refine g_sub [3, 4, 2, 1, 0] rfl ?_
  exact w_MO_rank_13 X hr hk9 _ _ _ _ _ _ hf
section
variable {R : Room} {kc ks : Nat} {Q : State → Prop} {nL : Nat} {cc : ByteArray} {own : String} {pc : Nat} {lv lv' : List (Nat × Value)} {st : List Value}
theorem ca_MO_rank {x1 : Int32} {x2 : Int32} (X : Cx Γ p R s m args c cc nL own kc ks) {idx : Nat} (hd : decode cc pc = .ok (.invokevirtual idx, 3)) (hlk : Cond.methodLink own idx y_MO_rank ∈ lw_gt) (hR : 1 + 1 ≤ R.frames ∧ 8 + (6 + 11) + 25 ≤ R.locals) (hw : (st.map fun v => v.category).sum ≤ 8) {σ σ' : Sg} {r : Int32} (hf : f_MO_rank x1 x2 σ = some (r, σ')) (k : G Γ p l e R s m args below meth c kc ks Q nL (pc + 3) lv (.int r :: st) σ') : G Γ p l e R s m args below meth c kc ks Q nL pc lv (.int x2 :: .int x1 :: .ref (Γ.2.2.1 112) :: st) σ :=
  g_callV (As := [.int x1, .int x2]) (rest := st) X hd (c_MO_rank' hf) co_MO_rank hlk wn_MO_rank wse_MO_rank (by decide) kd_112 rfl hR rfl rfl hw k
end
set_option maxRecDepth 10000 in
theorem w_MO_tallies_135 {K76 : Int32 → Sg → Option (Int32 × Sg)} {r : Int32} {σ' : Sg} (X : Cx Γ p (z_rm 4 89) s m args c c_MO_tallies 3 "CaptionTalliesModel" 0 0) (hr : meth.sig.returnType = none) (hk9 : meth.locks = false) (hK76 : ∀ (x1 : Int32) (σ : Sg), K76 x1 σ = some (r, σ') → G Γ p l e (z_rm 4 89) s m args below meth c 0 0 (MQ below (Qx Γ none σ') args s 0 0 (fun q : Nat => Γ.2.2.2 ≤ q)) 3 76 [(0, .ref (Γ.2.2.1 112)), (1, .int x1)] [] σ)  (x1 : Int32) (t0 : Int32) (t1 : Int32) (t2 : Int32) (σ : Sg) (hf : f_MO_tallies_135 K76 x1 t0 t1 t2 σ = some (r, σ')) : G Γ p l e (z_rm 4 89) s m args below meth c 0 0 (MQ below (Qx Γ none σ') args s 0 0 (fun q : Nat => Γ.2.2.2 ≤ q)) 3 135 [(0, .ref (Γ.2.2.1 112)), (1, .int x1)] [.int t0, .int t1, .int t2, .ref (Γ.2.2.1 119)] σ := by
  rw [f_MO_tallies_135] at hf
  refine g_iadd X d_MO_tallies_135 ?_
  obtain ⟨b1, hf⟩ := gd_some hf
  obtain ⟨σ2, eσ2, hf⟩ := lt_ex hf
  refine g_iast X d_MO_tallies_136 kd_119 b1 eσ2 ?_
  refine g_iinc X d_MO_tallies_137 (j := 1) (lv' := [(1, .int (x1 + (nI 1))), (0, .ref (Γ.2.2.1 112))]) rfl rfl (Nat.le_of_ble_eq_true rfl) rfl ?_
  refine g_goto X d_MO_tallies_140 76 (by decide) ?_
  refine g_sub [1, 0] rfl ?_
  exact hK76 _ _ hf
set_option maxRecDepth 10000 in
theorem w_MO_tallies_76 {r : Int32} {σ' : Sg} (X : Cx Γ p (z_rm 4 89) s m args c c_MO_tallies 3 "CaptionTalliesModel" 0 0) (hr : meth.sig.returnType = none) (hk9 : meth.locks = false) : ∀ (n9 : Nat) (x1 : Int32) (σ : Sg), f_MO_tallies_76 n9 x1 σ = some (r, σ') → G Γ p l e (z_rm 4 89) s m args below meth c 0 0 (MQ below (Qx Γ none σ') args s 0 0 (fun q : Nat => Γ.2.2.2 ≤ q)) 3 76 [(0, .ref (Γ.2.2.1 112)), (1, .int x1)] [] σ := by
  intro n9
  induction n9 with
  | zero => intro x1 σ hf; cases hf
  | succ n9 ih =>
    intro x1 σ hf
    rw [f_MO_tallies_76] at hf
    refine g_iload_n X d_MO_tallies_76 1 rfl ?_
    refine g_bipush X d_MO_tallies_77 (v := (nI 36)) rfl ?_
    refine g_ic_ge X d_MO_tallies_79 143 (by decide) (fun q1 => ?_) (fun q1 => ?_)
    · have hf := ite_t q1 hf
      exact g_vret X d_MO_tallies_143 hr hk9 hf
    · have hf := ite_f q1 hf
      refine g_aload_n X d_MO_tallies_82 0 rfl ?_
      refine gf_112_18 X d_MO_tallies_83 wl_MO_55 ?_
      refine g_iload_n X d_MO_tallies_86 1 rfl ?_
      obtain ⟨b2, hf⟩ := gd_some hf
      refine g_iald X d_MO_tallies_87 kd_128 b2 ?_
      refine g_if_lt X d_MO_tallies_88 137 (by decide) (fun q3 => ?_) (fun q3 => ?_)
      · have hf := ite_t q3 hf
        refine g_iinc X d_MO_tallies_137 (j := 1) (lv' := [(1, .int (x1 + (nI 1))), (0, .ref (Γ.2.2.1 112))]) rfl rfl (Nat.le_of_ble_eq_true rfl) rfl ?_
        refine g_goto X d_MO_tallies_140 76 (by decide) ?_
        refine g_sub [1, 0] rfl ?_
        exact ih _ _ hf
      · have hf := ite_f q3 hf
        refine g_aload_n X d_MO_tallies_91 0 rfl ?_
        refine gf_112_7 X d_MO_tallies_92 wl_MO_22 ?_
        refine g_aload_n X d_MO_tallies_95 0 rfl ?_
        refine gf_112_18 X d_MO_tallies_96 wl_MO_55 ?_
        refine g_iload_n X d_MO_tallies_99 1 rfl ?_
        obtain ⟨b4, hf⟩ := gd_some hf
        refine g_iald X d_MO_tallies_100 kd_128 b4 ?_
        obtain ⟨b5, hf⟩ := gd_some hf
        refine g_iald X d_MO_tallies_101 kd_117 b5 ?_
        obtain ⟨v6, ev6, hf⟩ := lt_ex hf
        refine g_top ev6 ?_
        refine g_istore_n X d_MO_tallies_102 rfl (lv' := [(2, .int v6), (0, .ref (Γ.2.2.1 112)), (1, .int x1)]) (Nat.le_of_ble_eq_true rfl) rfl ?_
        refine g_aload_n X d_MO_tallies_103 1 rfl ?_
        refine gf_112_8 X d_MO_tallies_104 wl_MO_25 ?_
        refine g_iload_n X d_MO_tallies_107 0 rfl ?_
        refine g_dup2 X d_MO_tallies_108 rfl rfl ?_
        obtain ⟨b7, hf⟩ := gd_some hf
        refine g_iald X d_MO_tallies_109 kd_118 b7 ?_
        refine g_iconst X d_MO_tallies_110 (v := (nI 3)) rfl ?_
        refine g_iload_n X d_MO_tallies_111 2 rfl ?_
        refine g_iconst X d_MO_tallies_112 (v := (nI 3)) rfl ?_
        obtain ⟨b8, hf⟩ := gd_some hf
        refine g_irem X d_MO_tallies_113 (nz_of b8) ?_
        refine g_isub X d_MO_tallies_114 ?_
        refine g_iadd X d_MO_tallies_115 ?_
        obtain ⟨b9, hf⟩ := gd_some hf
        obtain ⟨σ10, eσ10, hf⟩ := lt_ex hf
        refine g_iast X d_MO_tallies_116 kd_118 b9 eσ10 ?_
        refine g_aload_n X d_MO_tallies_117 1 rfl ?_
        refine gf_112_9 X d_MO_tallies_118 wl_MO_28 ?_
        refine g_iload_n X d_MO_tallies_121 0 rfl ?_
        refine g_dup2 X d_MO_tallies_122 rfl rfl ?_
        obtain ⟨b11, hf⟩ := gd_some hf
        refine g_iald X d_MO_tallies_123 kd_119 b11 ?_
        refine g_iload_n X d_MO_tallies_124 2 rfl ?_
        refine g_iconst X d_MO_tallies_125 (v := (nI 3)) rfl ?_
        obtain ⟨b12, hf⟩ := gd_some hf
        refine g_irem X d_MO_tallies_126 (nz_of b12) ?_
        refine g_if_ne X d_MO_tallies_127 134 (by decide) (fun q13 => ?_) (fun q13 => ?_)
        · have hf := ite_f q13 hf
          refine g_iconst X d_MO_tallies_134 (v := (nI 0)) rfl ?_
          refine g_sub [1, 2] rfl ?_
          exact w_MO_tallies_135 X hr hk9 ih _ _ _ _ _ hf
        · have hf := ite_t q13 hf
          refine g_iconst X d_MO_tallies_130 (v := (nI 1)) rfl ?_
          refine g_goto X d_MO_tallies_131 135 (by decide) ?_
          refine g_sub [1, 2] rfl ?_
          exact w_MO_tallies_135 X hr hk9 ih _ _ _ _ _ hf
set_option maxRecDepth 10000 in
theorem w_MO_tallies_67 {K10 : Int32 → Sg → Option (Int32 × Sg)} {r : Int32} {σ' : Sg} (X : Cx Γ p (z_rm 4 89) s m args c c_MO_tallies 3 "CaptionTalliesModel" 0 0) (hr : meth.sig.returnType = none) (hk9 : meth.locks = false) (hK10 : ∀ (x1 : Int32) (σ : Sg), K10 x1 σ = some (r, σ') → G Γ p l e (z_rm 4 89) s m args below meth c 0 0 (MQ below (Qx Γ none σ') args s 0 0 (fun q : Nat => Γ.2.2.2 ≤ q)) 3 10 [(0, .ref (Γ.2.2.1 112)), (1, .int x1)] [] σ)  (x1 : Int32) (t0 : Int32) (t1 : Int32) (σ : Sg) (hf : f_MO_tallies_67 K10 x1 t0 t1 σ = some (r, σ')) : G Γ p l e (z_rm 4 89) s m args below meth c 0 0 (MQ below (Qx Γ none σ') args s 0 0 (fun q : Nat => Γ.2.2.2 ≤ q)) 3 67 [(0, .ref (Γ.2.2.1 112)), (1, .int x1)] [.int t0, .int t1, .ref (Γ.2.2.1 120)] σ := by
  rw [f_MO_tallies_67] at hf
  obtain ⟨b1, hf⟩ := gd_some hf
  obtain ⟨σ2, eσ2, hf⟩ := lt_ex hf
  refine g_iast X d_MO_tallies_67 kd_120 b1 eσ2 ?_
  refine g_iinc X d_MO_tallies_68 (j := 1) (lv' := [(1, .int (x1 + (nI 1))), (0, .ref (Γ.2.2.1 112))]) rfl rfl (Nat.le_of_ble_eq_true rfl) rfl ?_
  refine g_goto X d_MO_tallies_71 10 (by decide) ?_
  refine g_sub [1, 0] rfl ?_
  exact hK10 _ _ hf
set_option maxRecDepth 10000 in
theorem w_MO_tallies_10 {r : Int32} {σ' : Sg} (X : Cx Γ p (z_rm 4 89) s m args c c_MO_tallies 3 "CaptionTalliesModel" 0 0) (hr : meth.sig.returnType = none) (hk9 : meth.locks = false) : ∀ (n9 : Nat) (x1 : Int32) (σ : Sg), f_MO_tallies_10 n9 x1 σ = some (r, σ') → G Γ p l e (z_rm 4 89) s m args below meth c 0 0 (MQ below (Qx Γ none σ') args s 0 0 (fun q : Nat => Γ.2.2.2 ≤ q)) 3 10 [(0, .ref (Γ.2.2.1 112)), (1, .int x1)] [] σ := by
  intro n9
  induction n9 with
  | zero => intro x1 σ hf; cases hf
  | succ n9 ih =>
    intro x1 σ hf
    rw [f_MO_tallies_10] at hf
    refine g_iload_n X d_MO_tallies_10 1 rfl ?_
    refine g_bipush X d_MO_tallies_11 (v := (nI 20)) rfl ?_
    refine g_ic_ge X d_MO_tallies_13 74 (by decide) (fun q1 => ?_) (fun q1 => ?_)
    · have hf := ite_t q1 hf
      refine g_iconst X d_MO_tallies_74 (v := (nI 0)) rfl ?_
      refine g_istore_n X d_MO_tallies_75 rfl (lv' := [(1, .int (nI 0)), (0, .ref (Γ.2.2.1 112))]) (Nat.le_of_ble_eq_true rfl) rfl ?_
      refine g_sub [1, 0] rfl ?_
      exact w_MO_tallies_76 X hr hk9 _ _ _ hf
    · have hf := ite_f q1 hf
      refine g_aload_n X d_MO_tallies_16 0 rfl ?_
      refine gf_112_8 X d_MO_tallies_17 wl_MO_25 ?_
      refine g_iload_n X d_MO_tallies_20 1 rfl ?_
      refine g_iconst X d_MO_tallies_21 (v := (nI 0)) rfl ?_
      obtain ⟨b2, hf⟩ := gd_some hf
      obtain ⟨σ3, eσ3, hf⟩ := lt_ex hf
      refine g_iast X d_MO_tallies_22 kd_118 b2 eσ3 ?_
      refine g_aload_n X d_MO_tallies_23 0 rfl ?_
      refine gf_112_9 X d_MO_tallies_24 wl_MO_28 ?_
      refine g_iload_n X d_MO_tallies_27 1 rfl ?_
      refine g_iconst X d_MO_tallies_28 (v := (nI 0)) rfl ?_
      obtain ⟨b4, hf⟩ := gd_some hf
      obtain ⟨σ5, eσ5, hf⟩ := lt_ex hf
      refine g_iast X d_MO_tallies_29 kd_119 b4 eσ5 ?_
      refine g_aload_n X d_MO_tallies_30 0 rfl ?_
      refine gf_112_10 X d_MO_tallies_31 wl_MO_31 ?_
      refine g_iload_n X d_MO_tallies_34 1 rfl ?_
      refine g_aload_n X d_MO_tallies_35 0 rfl ?_
      refine g_iload_n X d_MO_tallies_36 1 rfl ?_
      obtain ⟨r6, σ7, er6, hf⟩ := bd_some hf
      refine ca_MO_isHead X d_MO_tallies_37 wl_MO_109 ⟨Nat.le_of_ble_eq_true rfl, Nat.le_of_ble_eq_true rfl⟩ (sum8 rfl) er6 ?_
      refine g_if_eq X d_MO_tallies_40 66 (by decide) (fun q8 => ?_) (fun q8 => ?_)
      · have hf := ite_t q8 hf
        refine g_iconst X d_MO_tallies_66 (v := (nI 0)) rfl ?_
        exact w_MO_tallies_67 X hr hk9 ih _ _ _ _ hf
      · have hf := ite_f q8 hf
        refine g_aload_n X d_MO_tallies_43 0 rfl ?_
        refine g_iconst X d_MO_tallies_44 (v := (nI 0)) rfl ?_
        refine g_iload_n X d_MO_tallies_45 1 rfl ?_
        obtain ⟨r9, σ10, er9, hf⟩ := bd_some hf
        refine ca_MO_rank X d_MO_tallies_46 wl_MO_118 ⟨Nat.le_of_ble_eq_true rfl, Nat.le_of_ble_eq_true rfl⟩ (sum8 rfl) er9 ?_
        refine g_aload_n X d_MO_tallies_49 0 rfl ?_
        refine g_iconst X d_MO_tallies_50 (v := (nI 1)) rfl ?_
        refine g_iload_n X d_MO_tallies_51 1 rfl ?_
        obtain ⟨r11, σ12, er11, hf⟩ := bd_some hf
        refine ca_MO_rank X d_MO_tallies_52 wl_MO_118 ⟨Nat.le_of_ble_eq_true rfl, Nat.le_of_ble_eq_true rfl⟩ (sum8 rfl) er11 ?_
        refine g_iadd X d_MO_tallies_55 ?_
        refine g_aload_n X d_MO_tallies_56 0 rfl ?_
        refine g_iconst X d_MO_tallies_57 (v := (nI 2)) rfl ?_
        refine g_iload_n X d_MO_tallies_58 1 rfl ?_
        obtain ⟨r13, σ14, er13, hf⟩ := bd_some hf
        refine ca_MO_rank X d_MO_tallies_59 wl_MO_118 ⟨Nat.le_of_ble_eq_true rfl, Nat.le_of_ble_eq_true rfl⟩ (sum8 rfl) er13 ?_
        refine g_iadd X d_MO_tallies_62 ?_
        refine g_goto X d_MO_tallies_63 67 (by decide) ?_
        exact w_MO_tallies_67 X hr hk9 ih _ _ _ _ hf
set_option maxRecDepth 10000 in
theorem c_MO_tallies' {Γ : Gm} {l : Launch} {σ σ' : Sg} {r : Int32} (hf : f_MO_tallies σ = some (r, σ')) : Ctr Γ l y_MO_tallies c_MO_tallies 3 none 4 89 [.ref (Γ.2.2.1 112)] σ σ' none := by
  refine Ctr.of (lv := [(0, .ref (Γ.2.2.1 112))]) (by decide +kernel) (Nat.le_of_ble_eq_true rfl) rfl ?_
  intro p e s m args below meth c X hr hk9
  have X : Cx Γ p (z_rm 4 89) s m args c c_MO_tallies 3 "CaptionTalliesModel" 0 0 := X
  rw [f_MO_tallies] at hf
  refine g_aload_n X d_MO_tallies_0 0 rfl ?_
  obtain ⟨r1, σ2, er1, hf⟩ := bd_some hf
  refine ca_MO_heads X d_MO_tallies_1 wl_MO_112 ⟨Nat.le_of_ble_eq_true rfl, Nat.le_of_ble_eq_true rfl⟩ (sum8 rfl) er1 ?_
  refine g_aload_n X d_MO_tallies_4 0 rfl ?_
  obtain ⟨r3, σ4, er3, hf⟩ := bd_some hf
  refine ca_MO_counts X d_MO_tallies_5 wl_MO_115 ⟨Nat.le_of_ble_eq_true rfl, Nat.le_of_ble_eq_true rfl⟩ (sum8 rfl) er3 ?_
  refine g_iconst X d_MO_tallies_8 (v := (nI 0)) rfl ?_
  refine g_istore_n X d_MO_tallies_9 rfl (lv' := [(1, .int (nI 0)), (0, .ref (Γ.2.2.1 112))]) (Nat.le_of_ble_eq_true rfl) rfl ?_
  refine g_sub [1, 0] rfl ?_
  exact w_MO_tallies_10 X hr hk9 _ _ _ hf
section
variable {R : Room} {kc ks : Nat} {Q : State → Prop} {nL : Nat} {cc : ByteArray} {own : String} {pc : Nat} {lv lv' : List (Nat × Value)} {st : List Value}
theorem ca_MO_tallies (X : Cx Γ p R s m args c cc nL own kc ks) {idx : Nat} (hd : decode cc pc = .ok (.invokevirtual idx, 3)) (hlk : Cond.methodLink own idx y_MO_tallies ∈ lw_gt) (hR : 4 + 1 ≤ R.frames ∧ 8 + (3 + 11) + 89 ≤ R.locals) (hw : (st.map fun v => v.category).sum ≤ 8) {σ σ' : Sg} {r : Int32} (hf : f_MO_tallies σ = some (r, σ')) (k : G Γ p l e R s m args below meth c kc ks Q nL (pc + 3) lv (st) σ') : G Γ p l e R s m args below meth c kc ks Q nL pc lv (.ref (Γ.2.2.1 112) :: st) σ :=
  g_callV (As := []) (rest := st) X hd (c_MO_tallies' hf) co_MO_tallies hlk wn_MO_tallies wse_MO_tallies (by decide) kd_112 rfl hR rfl rfl hw k
end
set_option maxRecDepth 10000 in
theorem w_MO_standsFor_2 {r : Int32} {σ' : Sg} (X : Cx Γ p (z_rm 0 0) s m args c c_MO_standsFor 4 "CaptionTalliesModel" 0 0) (hr : meth.sig.returnType = (some .int)) (hk9 : meth.locks = false) : ∀ (n9 : Nat) (x1 : Int32) (x2 : Int32) (σ : Sg), f_MO_standsFor_2 n9 x1 x2 σ = some (r, σ') → G Γ p l e (z_rm 0 0) s m args below meth c 0 0 (MQ below (Qx Γ (some (.int r)) σ') args s 0 0 (fun q : Nat => Γ.2.2.2 ≤ q)) 4 2 [(0, .ref (Γ.2.2.1 112)), (1, .int x1), (2, .int x2)] [] σ := by
  intro n9
  induction n9 with
  | zero => intro x1 x2 σ hf; cases hf
  | succ n9 ih =>
    intro x1 x2 σ hf
    rw [f_MO_standsFor_2] at hf
    refine g_iload_n X d_MO_standsFor_2 2 rfl ?_
    refine g_iconst X d_MO_standsFor_3 (v := (nI 3)) rfl ?_
    refine g_ic_ge X d_MO_standsFor_4 49 (by decide) (fun q1 => ?_) (fun q1 => ?_)
    · have hf := ite_t q1 hf
      refine g_iconst X d_MO_standsFor_49 (v := (-1)) rfl ?_
      exact g_iret X d_MO_standsFor_50 hr hk9 hf
    · have hf := ite_f q1 hf
      refine g_aload_n X d_MO_standsFor_7 0 rfl ?_
      refine gf_112_18 X d_MO_standsFor_8 wl_MO_55 ?_
      refine g_iconst X d_MO_standsFor_11 (v := (nI 3)) rfl ?_
      refine g_iload_n X d_MO_standsFor_12 1 rfl ?_
      refine g_imul X d_MO_standsFor_13 ?_
      refine g_iload_n X d_MO_standsFor_14 2 rfl ?_
      refine g_iadd X d_MO_standsFor_15 ?_
      obtain ⟨b2, hf⟩ := gd_some hf
      refine g_iald X d_MO_standsFor_16 kd_128 b2 ?_
      obtain ⟨v3, ev3, hf⟩ := lt_ex hf
      refine g_top ev3 ?_
      refine g_istore_n X d_MO_standsFor_17 rfl (lv' := [(3, .int v3), (0, .ref (Γ.2.2.1 112)), (1, .int x1), (2, .int x2)]) (Nat.le_of_ble_eq_true rfl) rfl ?_
      refine g_iload_n X d_MO_standsFor_18 0 rfl ?_
      refine g_if_lt X d_MO_standsFor_19 43 (by decide) (fun q4 => ?_) (fun q4 => ?_)
      · have hf := ite_t q4 hf
        refine g_iinc X d_MO_standsFor_43 (j := 3) (lv' := [(2, .int (x2 + (nI 1))), (3, .int v3), (0, .ref (Γ.2.2.1 112)), (1, .int x1)]) rfl rfl (Nat.le_of_ble_eq_true rfl) rfl ?_
        refine g_goto X d_MO_standsFor_46 2 (by decide) ?_
        refine g_sub [2, 3, 0] rfl ?_
        exact ih _ _ _ hf
      · have hf := ite_f q4 hf
        refine g_aload_n X d_MO_standsFor_22 1 rfl ?_
        refine gf_112_11 X d_MO_standsFor_23 wl_MO_34 ?_
        refine g_aload_n X d_MO_standsFor_26 1 rfl ?_
        refine gf_112_7 X d_MO_standsFor_27 wl_MO_22 ?_
        refine g_iload_n X d_MO_standsFor_30 0 rfl ?_
        obtain ⟨b5, hf⟩ := gd_some hf
        refine g_iald X d_MO_standsFor_31 kd_117 b5 ?_
        obtain ⟨b6, hf⟩ := gd_some hf
        refine g_iald X d_MO_standsFor_32 kd_121 b6 ?_
        refine g_if_ge X d_MO_standsFor_33 43 (by decide) (fun q7 => ?_) (fun q7 => ?_)
        · have hf := ite_t q7 hf
          refine g_iinc X d_MO_standsFor_43 (j := 3) (lv' := [(2, .int (x2 + (nI 1))), (3, .int v3), (0, .ref (Γ.2.2.1 112)), (1, .int x1)]) rfl rfl (Nat.le_of_ble_eq_true rfl) rfl ?_
          refine g_goto X d_MO_standsFor_46 2 (by decide) ?_
          refine g_sub [2, 3, 0] rfl ?_
          exact ih _ _ _ hf
        · have hf := ite_f q7 hf
          refine g_aload_n X d_MO_standsFor_36 1 rfl ?_
          refine gf_112_7 X d_MO_standsFor_37 wl_MO_22 ?_
          refine g_iload_n X d_MO_standsFor_40 0 rfl ?_
          obtain ⟨b8, hf⟩ := gd_some hf
          refine g_iald X d_MO_standsFor_41 kd_117 b8 ?_
          exact g_iret X d_MO_standsFor_42 hr hk9 hf
set_option maxRecDepth 10000 in
theorem c_MO_standsFor' {Γ : Gm} {l : Launch} {x1 : Int32} {σ σ' : Sg} {r : Int32} (hf : f_MO_standsFor x1 σ = some (r, σ')) : Ctr Γ l y_MO_standsFor c_MO_standsFor 4 (some .int) 0 0 [.ref (Γ.2.2.1 112), .int x1] σ σ' (some (.int r)) := by
  refine Ctr.of (lv := [(0, .ref (Γ.2.2.1 112)), (1, .int x1)]) (by decide +kernel) (Nat.le_of_ble_eq_true rfl) rfl ?_
  intro p e s m args below meth c X hr hk9
  have X : Cx Γ p (z_rm 0 0) s m args c c_MO_standsFor 4 "CaptionTalliesModel" 0 0 := X
  rw [f_MO_standsFor] at hf
  refine g_iconst X d_MO_standsFor_0 (v := (nI 0)) rfl ?_
  refine g_istore_n X d_MO_standsFor_1 rfl (lv' := [(2, .int (nI 0)), (0, .ref (Γ.2.2.1 112)), (1, .int x1)]) (Nat.le_of_ble_eq_true rfl) rfl ?_
  refine g_sub [1, 2, 0] rfl ?_
  exact w_MO_standsFor_2 X hr hk9 _ _ _ _ hf
section
variable {R : Room} {kc ks : Nat} {Q : State → Prop} {nL : Nat} {cc : ByteArray} {own : String} {pc : Nat} {lv lv' : List (Nat × Value)} {st : List Value}
theorem ca_MO_standsFor {x1 : Int32} (X : Cx Γ p R s m args c cc nL own kc ks) {idx : Nat} (hd : decode cc pc = .ok (.invokevirtual idx, 3)) (hlk : Cond.methodLink own idx y_MO_standsFor ∈ lw_gt) (hR : 0 + 1 ≤ R.frames ∧ 8 + (4 + 11) + 0 ≤ R.locals) (hw : (st.map fun v => v.category).sum ≤ 8) {σ σ' : Sg} {r : Int32} (hf : f_MO_standsFor x1 σ = some (r, σ')) (k : G Γ p l e R s m args below meth c kc ks Q nL (pc + 3) lv (.int r :: st) σ') : G Γ p l e R s m args below meth c kc ks Q nL pc lv (.int x1 :: .ref (Γ.2.2.1 112) :: st) σ :=
  g_callV (As := [.int x1]) (rest := st) X hd (c_MO_standsFor' hf) co_MO_standsFor hlk wn_MO_standsFor wse_MO_standsFor (by decide) kd_112 rfl hR rfl rfl hw k
end
set_option maxRecDepth 10000 in
theorem w_MO_goesRounds_193 {K112 : Int32 → Int32 → Int32 → Sg → Option (Int32 × Sg)} {r : Int32} {σ' : Sg} (X : Cx Γ p (z_rm 1 23) s m args c c_MO_goesRounds 5 "CaptionTalliesModel" 0 0) (hr : meth.sig.returnType = none) (hk9 : meth.locks = false) (hK112 : ∀ (x1 : Int32) (x2 : Int32) (x3 : Int32) (σ : Sg), K112 x1 x2 x3 σ = some (r, σ') → G Γ p l e (z_rm 1 23) s m args below meth c 0 0 (MQ below (Qx Γ none σ') args s 0 0 (fun q : Nat => Γ.2.2.2 ≤ q)) 5 112 [(0, .ref (Γ.2.2.1 112)), (1, .int x1), (2, .int x2), (3, .int x3)] [] σ)  (x1 : Int32) (x2 : Int32) (x3 : Int32) (t0 : Int32) (σ : Sg) (hf : f_MO_goesRounds_193 K112 x1 x2 x3 t0 σ = some (r, σ')) : G Γ p l e (z_rm 1 23) s m args below meth c 0 0 (MQ below (Qx Γ none σ') args s 0 0 (fun q : Nat => Γ.2.2.2 ≤ q)) 5 193 [(0, .ref (Γ.2.2.1 112)), (1, .int x1), (2, .int x2), (3, .int x3)] [.int t0] σ := by
  rw [f_MO_goesRounds_193] at hf
  refine g_istore X d_MO_goesRounds_193 (lv' := [(4, .int t0), (0, .ref (Γ.2.2.1 112)), (1, .int x1), (2, .int x2), (3, .int x3)]) (Nat.le_of_ble_eq_true rfl) rfl ?_
  refine g_iload X d_MO_goesRounds_195 0 rfl ?_
  refine g_if_eq X d_MO_goesRounds_197 204 (by decide) (fun q1 => ?_) (fun q1 => ?_)
  · have hf := ite_t q1 hf
    refine g_iload_n X d_MO_goesRounds_204 3 rfl ?_
    refine g_istore_n X d_MO_goesRounds_205 rfl (lv' := [(2, .int x2), (4, .int t0), (0, .ref (Γ.2.2.1 112)), (1, .int x1), (3, .int x3)]) (Nat.le_of_ble_eq_true rfl) rfl ?_
    refine g_iinc X d_MO_goesRounds_206 (j := 4) (lv' := [(3, .int (x3 + (nI 1))), (2, .int x2), (4, .int t0), (0, .ref (Γ.2.2.1 112)), (1, .int x1)]) rfl rfl (Nat.le_of_ble_eq_true rfl) rfl ?_
    refine g_goto X d_MO_goesRounds_209 112 (by decide) ?_
    refine g_sub [3, 4, 1, 0] rfl ?_
    exact hK112 _ _ _ _ hf
  · have hf := ite_f q1 hf
    refine g_iload_n X d_MO_goesRounds_200 4 rfl ?_
    refine g_goto X d_MO_goesRounds_201 205 (by decide) ?_
    refine g_istore_n X d_MO_goesRounds_205 rfl (lv' := [(2, .int x3), (4, .int t0), (0, .ref (Γ.2.2.1 112)), (1, .int x1), (3, .int x3)]) (Nat.le_of_ble_eq_true rfl) rfl ?_
    refine g_iinc X d_MO_goesRounds_206 (j := 4) (lv' := [(3, .int (x3 + (nI 1))), (2, .int x3), (4, .int t0), (0, .ref (Γ.2.2.1 112)), (1, .int x1)]) rfl rfl (Nat.le_of_ble_eq_true rfl) rfl ?_
    refine g_goto X d_MO_goesRounds_209 112 (by decide) ?_
    refine g_sub [3, 4, 1, 0] rfl ?_
    exact hK112 _ _ _ _ hf
set_option maxRecDepth 10000 in
theorem w_MO_goesRounds_112 {K23 : Int32 → Sg → Option (Int32 × Sg)} {r : Int32} {σ' : Sg} (X : Cx Γ p (z_rm 1 23) s m args c c_MO_goesRounds 5 "CaptionTalliesModel" 0 0) (hr : meth.sig.returnType = none) (hk9 : meth.locks = false) (hK23 : ∀ (x1 : Int32) (σ : Sg), K23 x1 σ = some (r, σ') → G Γ p l e (z_rm 1 23) s m args below meth c 0 0 (MQ below (Qx Γ none σ') args s 0 0 (fun q : Nat => Γ.2.2.2 ≤ q)) 5 23 [(0, .ref (Γ.2.2.1 112)), (1, .int x1)] [] σ) : ∀ (n9 : Nat) (x1 : Int32) (x2 : Int32) (x3 : Int32) (σ : Sg), f_MO_goesRounds_112 K23 n9 x1 x2 x3 σ = some (r, σ') → G Γ p l e (z_rm 1 23) s m args below meth c 0 0 (MQ below (Qx Γ none σ') args s 0 0 (fun q : Nat => Γ.2.2.2 ≤ q)) 5 112 [(0, .ref (Γ.2.2.1 112)), (1, .int x1), (2, .int x2), (3, .int x3)] [] σ := by
  intro n9
  induction n9 with
  | zero => intro x1 x2 x3 σ hf; cases hf
  | succ n9 ih =>
    intro x1 x2 x3 σ hf
    rw [f_MO_goesRounds_112] at hf
    refine g_iload_n X d_MO_goesRounds_112 3 rfl ?_
    refine g_aload_n X d_MO_goesRounds_113 0 rfl ?_
    refine gf_112_0 X d_MO_goesRounds_114 wl_MO_7 ?_
    refine g_iconst X d_MO_goesRounds_117 (v := (nI 0)) rfl ?_
    obtain ⟨b1, hf⟩ := gd_some hf
    refine g_iald X d_MO_goesRounds_118 kd_113 b1 ?_
    refine g_ic_ge X d_MO_goesRounds_119 212 (by decide) (fun q2 => ?_) (fun q2 => ?_)
    · have hf := ite_t q2 hf
      refine g_aload_n X d_MO_goesRounds_212 0 rfl ?_
      refine gf_112_11 X d_MO_goesRounds_213 wl_MO_34 ?_
      refine g_iload_n X d_MO_goesRounds_216 2 rfl ?_
      refine g_iload_n X d_MO_goesRounds_217 1 rfl ?_
      obtain ⟨b3, hf⟩ := gd_some hf
      obtain ⟨σ4, eσ4, hf⟩ := lt_ex hf
      refine g_iast X d_MO_goesRounds_218 kd_121 b3 eσ4 ?_
      refine g_aload_n X d_MO_goesRounds_219 0 rfl ?_
      refine gf_112_12 X d_MO_goesRounds_220 wl_MO_37 ?_
      refine g_iload_n X d_MO_goesRounds_223 1 rfl ?_
      refine g_iload_n X d_MO_goesRounds_224 2 rfl ?_
      obtain ⟨b5, hf⟩ := gd_some hf
      obtain ⟨σ6, eσ6, hf⟩ := lt_ex hf
      refine g_iast X d_MO_goesRounds_225 kd_122 b5 eσ6 ?_
      refine g_aload_n X d_MO_goesRounds_226 0 rfl ?_
      refine gf_112_13 X d_MO_goesRounds_227 wl_MO_40 ?_
      refine g_iload_n X d_MO_goesRounds_230 1 rfl ?_
      refine g_aload_n X d_MO_goesRounds_231 0 rfl ?_
      refine gf_112_17 X d_MO_goesRounds_232 wl_MO_52 ?_
      refine g_iload_n X d_MO_goesRounds_235 2 rfl ?_
      obtain ⟨b7, hf⟩ := gd_some hf
      refine g_iald X d_MO_goesRounds_236 kd_127 b7 ?_
      obtain ⟨b8, hf⟩ := gd_some hf
      obtain ⟨σ9, eσ9, hf⟩ := lt_ex hf
      refine g_iast X d_MO_goesRounds_237 kd_123 b8 eσ9 ?_
      refine g_iinc X d_MO_goesRounds_238 (j := 1) (lv' := [(1, .int (x1 + (nI 1))), (0, .ref (Γ.2.2.1 112)), (2, .int x2), (3, .int x3)]) rfl rfl (Nat.le_of_ble_eq_true rfl) rfl ?_
      refine g_goto X d_MO_goesRounds_241 23 (by decide) ?_
      refine g_sub [1, 0] rfl ?_
      exact hK23 _ _ hf
    · have hf := ite_f q2 hf
      refine g_aload_n X d_MO_goesRounds_122 0 rfl ?_
      refine g_iload_n X d_MO_goesRounds_123 3 rfl ?_
      obtain ⟨r10, σ11, er10, hf⟩ := bd_some hf
      refine ca_MO_isHead X d_MO_goesRounds_124 wl_MO_109 ⟨Nat.le_of_ble_eq_true rfl, Nat.le_of_ble_eq_true rfl⟩ (sum8 rfl) er10 ?_
      refine g_if_eq X d_MO_goesRounds_127 206 (by decide) (fun q12 => ?_) (fun q12 => ?_)
      · have hf := ite_t q12 hf
        refine g_iinc X d_MO_goesRounds_206 (j := 3) (lv' := [(3, .int (x3 + (nI 1))), (0, .ref (Γ.2.2.1 112)), (1, .int x1), (2, .int x2)]) rfl rfl (Nat.le_of_ble_eq_true rfl) rfl ?_
        refine g_goto X d_MO_goesRounds_209 112 (by decide) ?_
        refine g_sub [1, 2, 3, 0] rfl ?_
        exact ih _ _ _ _ hf
      · have hf := ite_f q12 hf
        refine g_aload_n X d_MO_goesRounds_130 0 rfl ?_
        refine gf_112_11 X d_MO_goesRounds_131 wl_MO_34 ?_
        refine g_iload_n X d_MO_goesRounds_134 3 rfl ?_
        obtain ⟨b13, hf⟩ := gd_some hf
        refine g_iald X d_MO_goesRounds_135 kd_121 b13 ?_
        refine g_if_ge X d_MO_goesRounds_136 206 (by decide) (fun q14 => ?_) (fun q14 => ?_)
        · have hf := ite_t q14 hf
          refine g_iinc X d_MO_goesRounds_206 (j := 3) (lv' := [(3, .int (x3 + (nI 1))), (0, .ref (Γ.2.2.1 112)), (1, .int x1), (2, .int x2)]) rfl rfl (Nat.le_of_ble_eq_true rfl) rfl ?_
          refine g_goto X d_MO_goesRounds_209 112 (by decide) ?_
          refine g_sub [1, 2, 3, 0] rfl ?_
          exact ih _ _ _ _ hf
        · have hf := ite_f q14 hf
          refine g_iload_n X d_MO_goesRounds_139 2 rfl ?_
          refine g_if_lt X d_MO_goesRounds_140 188 (by decide) (fun q15 => ?_) (fun q15 => ?_)
          · have hf := ite_t q15 hf
            refine g_iconst X d_MO_goesRounds_188 (v := (nI 1)) rfl ?_
            refine g_goto X d_MO_goesRounds_189 193 (by decide) ?_
            exact w_MO_goesRounds_193 X hr hk9 ih _ _ _ _ _ hf
          · have hf := ite_f q15 hf
            refine g_aload_n X d_MO_goesRounds_143 0 rfl ?_
            refine gf_112_17 X d_MO_goesRounds_144 wl_MO_52 ?_
            refine g_iload_n X d_MO_goesRounds_147 3 rfl ?_
            obtain ⟨b16, hf⟩ := gd_some hf
            refine g_iald X d_MO_goesRounds_148 kd_127 b16 ?_
            refine g_aload_n X d_MO_goesRounds_149 0 rfl ?_
            refine gf_112_17 X d_MO_goesRounds_150 wl_MO_52 ?_
            refine g_iload_n X d_MO_goesRounds_153 2 rfl ?_
            obtain ⟨b17, hf⟩ := gd_some hf
            refine g_iald X d_MO_goesRounds_154 kd_127 b17 ?_
            refine g_ic_lt X d_MO_goesRounds_155 188 (by decide) (fun q18 => ?_) (fun q18 => ?_)
            · have hf := ite_t q18 hf
              refine g_iconst X d_MO_goesRounds_188 (v := (nI 1)) rfl ?_
              refine g_goto X d_MO_goesRounds_189 193 (by decide) ?_
              exact w_MO_goesRounds_193 X hr hk9 ih _ _ _ _ _ hf
            · have hf := ite_f q18 hf
              refine g_aload_n X d_MO_goesRounds_158 0 rfl ?_
              refine gf_112_17 X d_MO_goesRounds_159 wl_MO_52 ?_
              refine g_iload_n X d_MO_goesRounds_162 3 rfl ?_
              obtain ⟨b19, hf⟩ := gd_some hf
              refine g_iald X d_MO_goesRounds_163 kd_127 b19 ?_
              refine g_aload_n X d_MO_goesRounds_164 0 rfl ?_
              refine gf_112_17 X d_MO_goesRounds_165 wl_MO_52 ?_
              refine g_iload_n X d_MO_goesRounds_168 2 rfl ?_
              obtain ⟨b20, hf⟩ := gd_some hf
              refine g_iald X d_MO_goesRounds_169 kd_127 b20 ?_
              refine g_ic_ne X d_MO_goesRounds_170 192 (by decide) (fun q21 => ?_) (fun q21 => ?_)
              · have hf := ite_f q21 hf
                refine g_iconst X d_MO_goesRounds_192 (v := (nI 0)) rfl ?_
                exact w_MO_goesRounds_193 X hr hk9 ih _ _ _ _ _ hf
              · have hf := ite_t q21 hf
                refine g_aload_n X d_MO_goesRounds_173 0 rfl ?_
                refine gf_112_10 X d_MO_goesRounds_174 wl_MO_31 ?_
                refine g_iload_n X d_MO_goesRounds_177 3 rfl ?_
                obtain ⟨b22, hf⟩ := gd_some hf
                refine g_iald X d_MO_goesRounds_178 kd_120 b22 ?_
                refine g_aload_n X d_MO_goesRounds_179 0 rfl ?_
                refine gf_112_10 X d_MO_goesRounds_180 wl_MO_31 ?_
                refine g_iload_n X d_MO_goesRounds_183 2 rfl ?_
                obtain ⟨b23, hf⟩ := gd_some hf
                refine g_iald X d_MO_goesRounds_184 kd_120 b23 ?_
                refine g_ic_lt X d_MO_goesRounds_185 192 (by decide) (fun q24 => ?_) (fun q24 => ?_)
                · have hf := ite_t q24 hf
                  refine g_iconst X d_MO_goesRounds_192 (v := (nI 0)) rfl ?_
                  exact w_MO_goesRounds_193 X hr hk9 ih _ _ _ _ _ hf
                · have hf := ite_f q24 hf
                  refine g_iconst X d_MO_goesRounds_188 (v := (nI 1)) rfl ?_
                  refine g_goto X d_MO_goesRounds_189 193 (by decide) ?_
                  exact w_MO_goesRounds_193 X hr hk9 ih _ _ _ _ _ hf
set_option maxRecDepth 10000 in
theorem w_MO_goesRounds_63 {K23 : Int32 → Sg → Option (Int32 × Sg)} {r : Int32} {σ' : Sg} (X : Cx Γ p (z_rm 1 23) s m args c c_MO_goesRounds 5 "CaptionTalliesModel" 0 0) (hr : meth.sig.returnType = none) (hk9 : meth.locks = false) (hK23 : ∀ (x1 : Int32) (σ : Sg), K23 x1 σ = some (r, σ') → G Γ p l e (z_rm 1 23) s m args below meth c 0 0 (MQ below (Qx Γ none σ') args s 0 0 (fun q : Nat => Γ.2.2.2 ≤ q)) 5 23 [(0, .ref (Γ.2.2.1 112)), (1, .int x1)] [] σ) : ∀ (n9 : Nat) (x1 : Int32) (x2 : Int32) (σ : Sg), f_MO_goesRounds_63 K23 n9 x1 x2 σ = some (r, σ') → G Γ p l e (z_rm 1 23) s m args below meth c 0 0 (MQ below (Qx Γ none σ') args s 0 0 (fun q : Nat => Γ.2.2.2 ≤ q)) 5 63 [(0, .ref (Γ.2.2.1 112)), (1, .int x1), (2, .int x2)] [] σ := by
  intro n9
  induction n9 with
  | zero => intro x1 x2 σ hf; cases hf
  | succ n9 ih =>
    intro x1 x2 σ hf
    rw [f_MO_goesRounds_63] at hf
    refine g_iload_n X d_MO_goesRounds_63 2 rfl ?_
    refine g_bipush X d_MO_goesRounds_64 (v := (nI 12)) rfl ?_
    refine g_ic_ge X d_MO_goesRounds_66 108 (by decide) (fun q1 => ?_) (fun q1 => ?_)
    · have hf := ite_t q1 hf
      refine g_iconst X d_MO_goesRounds_108 (v := (-1)) rfl ?_
      refine g_istore_n X d_MO_goesRounds_109 rfl (lv' := [(2, .int (-1)), (0, .ref (Γ.2.2.1 112)), (1, .int x1)]) (Nat.le_of_ble_eq_true rfl) rfl ?_
      refine g_iconst X d_MO_goesRounds_110 (v := (nI 0)) rfl ?_
      refine g_istore_n X d_MO_goesRounds_111 rfl (lv' := [(3, .int (nI 0)), (2, .int (-1)), (0, .ref (Γ.2.2.1 112)), (1, .int x1)]) (Nat.le_of_ble_eq_true rfl) rfl ?_
      refine g_sub [2, 3, 1, 0] rfl ?_
      exact w_MO_goesRounds_112 X hr hk9 hK23 _ _ _ _ _ hf
    · have hf := ite_f q1 hf
      refine g_aload_n X d_MO_goesRounds_69 0 rfl ?_
      refine g_iload_n X d_MO_goesRounds_70 2 rfl ?_
      obtain ⟨r2, σ3, er2, hf⟩ := bd_some hf
      refine ca_MO_standsFor X d_MO_goesRounds_71 wl_MO_121 ⟨Nat.le_of_ble_eq_true rfl, Nat.le_of_ble_eq_true rfl⟩ (sum8 rfl) er2 ?_
      refine g_istore_n X d_MO_goesRounds_74 rfl (lv' := [(3, .int r2), (0, .ref (Γ.2.2.1 112)), (1, .int x1), (2, .int x2)]) (Nat.le_of_ble_eq_true rfl) rfl ?_
      refine g_iload_n X d_MO_goesRounds_75 0 rfl ?_
      refine g_if_ge X d_MO_goesRounds_76 92 (by decide) (fun q4 => ?_) (fun q4 => ?_)
      · have hf := ite_t q4 hf
        refine g_aload_n X d_MO_goesRounds_92 1 rfl ?_
        refine gf_112_17 X d_MO_goesRounds_93 wl_MO_52 ?_
        refine g_iload_n X d_MO_goesRounds_96 0 rfl ?_
        refine g_dup2 X d_MO_goesRounds_97 rfl rfl ?_
        obtain ⟨b5, hf⟩ := gd_some hf
        refine g_iald X d_MO_goesRounds_98 kd_127 b5 ?_
        refine g_iconst X d_MO_goesRounds_99 (v := (nI 1)) rfl ?_
        refine g_iadd X d_MO_goesRounds_100 ?_
        obtain ⟨b6, hf⟩ := gd_some hf
        obtain ⟨σ7, eσ7, hf⟩ := lt_ex hf
        refine g_iast X d_MO_goesRounds_101 kd_127 b6 eσ7 ?_
        refine g_iinc X d_MO_goesRounds_102 (j := 3) (lv' := [(2, .int (x2 + (nI 1))), (3, .int r2), (0, .ref (Γ.2.2.1 112)), (1, .int x1)]) rfl rfl (Nat.le_of_ble_eq_true rfl) rfl ?_
        refine g_goto X d_MO_goesRounds_105 63 (by decide) ?_
        refine g_sub [2, 3, 0] rfl ?_
        exact ih _ _ _ hf
      · have hf := ite_f q4 hf
        refine g_aload_n X d_MO_goesRounds_79 1 rfl ?_
        refine gf_112_14 X d_MO_goesRounds_80 wl_MO_43 ?_
        refine g_iload_n X d_MO_goesRounds_83 2 rfl ?_
        refine g_dup2 X d_MO_goesRounds_84 rfl rfl ?_
        obtain ⟨b8, hf⟩ := gd_some hf
        refine g_iald X d_MO_goesRounds_85 kd_124 b8 ?_
        refine g_iconst X d_MO_goesRounds_86 (v := (nI 1)) rfl ?_
        refine g_iadd X d_MO_goesRounds_87 ?_
        obtain ⟨b9, hf⟩ := gd_some hf
        obtain ⟨σ10, eσ10, hf⟩ := lt_ex hf
        refine g_iast X d_MO_goesRounds_88 kd_124 b9 eσ10 ?_
        refine g_goto X d_MO_goesRounds_89 102 (by decide) ?_
        refine g_iinc X d_MO_goesRounds_102 (j := 3) (lv' := [(2, .int (x2 + (nI 1))), (3, .int r2), (0, .ref (Γ.2.2.1 112)), (1, .int x1)]) rfl rfl (Nat.le_of_ble_eq_true rfl) rfl ?_
        refine g_goto X d_MO_goesRounds_105 63 (by decide) ?_
        refine g_sub [2, 3, 0] rfl ?_
        exact ih _ _ _ hf
set_option maxRecDepth 10000 in
theorem w_MO_goesRounds_35 {K23 : Int32 → Sg → Option (Int32 × Sg)} {r : Int32} {σ' : Sg} (X : Cx Γ p (z_rm 1 23) s m args c c_MO_goesRounds 5 "CaptionTalliesModel" 0 0) (hr : meth.sig.returnType = none) (hk9 : meth.locks = false) (hK23 : ∀ (x1 : Int32) (σ : Sg), K23 x1 σ = some (r, σ') → G Γ p l e (z_rm 1 23) s m args below meth c 0 0 (MQ below (Qx Γ none σ') args s 0 0 (fun q : Nat => Γ.2.2.2 ≤ q)) 5 23 [(0, .ref (Γ.2.2.1 112)), (1, .int x1)] [] σ) : ∀ (n9 : Nat) (x1 : Int32) (x2 : Int32) (σ : Sg), f_MO_goesRounds_35 K23 n9 x1 x2 σ = some (r, σ') → G Γ p l e (z_rm 1 23) s m args below meth c 0 0 (MQ below (Qx Γ none σ') args s 0 0 (fun q : Nat => Γ.2.2.2 ≤ q)) 5 35 [(0, .ref (Γ.2.2.1 112)), (1, .int x1), (2, .int x2)] [] σ := by
  intro n9
  induction n9 with
  | zero => intro x1 x2 σ hf; cases hf
  | succ n9 ih =>
    intro x1 x2 σ hf
    rw [f_MO_goesRounds_35] at hf
    refine g_iload_n X d_MO_goesRounds_35 2 rfl ?_
    refine g_bipush X d_MO_goesRounds_36 (v := (nI 20)) rfl ?_
    refine g_ic_ge X d_MO_goesRounds_38 54 (by decide) (fun q1 => ?_) (fun q1 => ?_)
    · have hf := ite_t q1 hf
      refine g_aload_n X d_MO_goesRounds_54 0 rfl ?_
      refine gf_112_14 X d_MO_goesRounds_55 wl_MO_43 ?_
      refine g_iload_n X d_MO_goesRounds_58 1 rfl ?_
      refine g_iconst X d_MO_goesRounds_59 (v := (nI 0)) rfl ?_
      obtain ⟨b2, hf⟩ := gd_some hf
      obtain ⟨σ3, eσ3, hf⟩ := lt_ex hf
      refine g_iast X d_MO_goesRounds_60 kd_124 b2 eσ3 ?_
      refine g_iconst X d_MO_goesRounds_61 (v := (nI 0)) rfl ?_
      refine g_istore_n X d_MO_goesRounds_62 rfl (lv' := [(2, .int (nI 0)), (0, .ref (Γ.2.2.1 112)), (1, .int x1)]) (Nat.le_of_ble_eq_true rfl) rfl ?_
      refine g_sub [1, 2, 0] rfl ?_
      exact w_MO_goesRounds_63 X hr hk9 hK23 _ _ _ _ hf
    · have hf := ite_f q1 hf
      refine g_aload_n X d_MO_goesRounds_41 0 rfl ?_
      refine gf_112_17 X d_MO_goesRounds_42 wl_MO_52 ?_
      refine g_iload_n X d_MO_goesRounds_45 2 rfl ?_
      refine g_iconst X d_MO_goesRounds_46 (v := (nI 0)) rfl ?_
      obtain ⟨b4, hf⟩ := gd_some hf
      obtain ⟨σ5, eσ5, hf⟩ := lt_ex hf
      refine g_iast X d_MO_goesRounds_47 kd_127 b4 eσ5 ?_
      refine g_iinc X d_MO_goesRounds_48 (j := 2) (lv' := [(2, .int (x2 + (nI 1))), (0, .ref (Γ.2.2.1 112)), (1, .int x1)]) rfl rfl (Nat.le_of_ble_eq_true rfl) rfl ?_
      refine g_goto X d_MO_goesRounds_51 35 (by decide) ?_
      refine g_sub [1, 2, 0] rfl ?_
      exact ih _ _ _ hf
set_option maxRecDepth 10000 in
theorem w_MO_goesRounds_23 {r : Int32} {σ' : Sg} (X : Cx Γ p (z_rm 1 23) s m args c c_MO_goesRounds 5 "CaptionTalliesModel" 0 0) (hr : meth.sig.returnType = none) (hk9 : meth.locks = false) : ∀ (n9 : Nat) (x1 : Int32) (σ : Sg), f_MO_goesRounds_23 n9 x1 σ = some (r, σ') → G Γ p l e (z_rm 1 23) s m args below meth c 0 0 (MQ below (Qx Γ none σ') args s 0 0 (fun q : Nat => Γ.2.2.2 ≤ q)) 5 23 [(0, .ref (Γ.2.2.1 112)), (1, .int x1)] [] σ := by
  intro n9
  induction n9 with
  | zero => intro x1 σ hf; cases hf
  | succ n9 ih =>
    intro x1 σ hf
    rw [f_MO_goesRounds_23] at hf
    refine g_iload_n X d_MO_goesRounds_23 1 rfl ?_
    refine g_iconst X d_MO_goesRounds_24 (v := (nI 1)) rfl ?_
    refine g_iadd X d_MO_goesRounds_25 ?_
    refine g_aload_n X d_MO_goesRounds_26 0 rfl ?_
    refine gf_112_23 X d_MO_goesRounds_27 wl_MO_93 ?_
    refine g_ic_ge X d_MO_goesRounds_30 244 (by decide) (fun q1 => ?_) (fun q1 => ?_)
    · have hf := ite_t q1 hf
      exact g_vret X d_MO_goesRounds_244 hr hk9 hf
    · have hf := ite_f q1 hf
      refine g_iconst X d_MO_goesRounds_33 (v := (nI 0)) rfl ?_
      refine g_istore_n X d_MO_goesRounds_34 rfl (lv' := [(2, .int (nI 0)), (0, .ref (Γ.2.2.1 112)), (1, .int x1)]) (Nat.le_of_ble_eq_true rfl) rfl ?_
      refine g_sub [1, 2, 0] rfl ?_
      exact w_MO_goesRounds_35 X hr hk9 ih _ _ _ _ hf
set_option maxRecDepth 10000 in
theorem w_MO_goesRounds_2 {r : Int32} {σ' : Sg} (X : Cx Γ p (z_rm 1 23) s m args c c_MO_goesRounds 5 "CaptionTalliesModel" 0 0) (hr : meth.sig.returnType = none) (hk9 : meth.locks = false) : ∀ (n9 : Nat) (x1 : Int32) (σ : Sg), f_MO_goesRounds_2 n9 x1 σ = some (r, σ') → G Γ p l e (z_rm 1 23) s m args below meth c 0 0 (MQ below (Qx Γ none σ') args s 0 0 (fun q : Nat => Γ.2.2.2 ≤ q)) 5 2 [(0, .ref (Γ.2.2.1 112)), (1, .int x1)] [] σ := by
  intro n9
  induction n9 with
  | zero => intro x1 σ hf; cases hf
  | succ n9 ih =>
    intro x1 σ hf
    rw [f_MO_goesRounds_2] at hf
    refine g_iload_n X d_MO_goesRounds_2 1 rfl ?_
    refine g_bipush X d_MO_goesRounds_3 (v := (nI 20)) rfl ?_
    refine g_ic_ge X d_MO_goesRounds_5 21 (by decide) (fun q1 => ?_) (fun q1 => ?_)
    · have hf := ite_t q1 hf
      refine g_iconst X d_MO_goesRounds_21 (v := (nI 0)) rfl ?_
      refine g_istore_n X d_MO_goesRounds_22 rfl (lv' := [(1, .int (nI 0)), (0, .ref (Γ.2.2.1 112))]) (Nat.le_of_ble_eq_true rfl) rfl ?_
      refine g_sub [1, 0] rfl ?_
      exact w_MO_goesRounds_23 X hr hk9 _ _ _ hf
    · have hf := ite_f q1 hf
      refine g_aload_n X d_MO_goesRounds_8 0 rfl ?_
      refine gf_112_11 X d_MO_goesRounds_9 wl_MO_34 ?_
      refine g_iload_n X d_MO_goesRounds_12 1 rfl ?_
      refine g_iconst X d_MO_goesRounds_13 (v := (-1)) rfl ?_
      obtain ⟨b2, hf⟩ := gd_some hf
      obtain ⟨σ3, eσ3, hf⟩ := lt_ex hf
      refine g_iast X d_MO_goesRounds_14 kd_121 b2 eσ3 ?_
      refine g_iinc X d_MO_goesRounds_15 (j := 1) (lv' := [(1, .int (x1 + (nI 1))), (0, .ref (Γ.2.2.1 112))]) rfl rfl (Nat.le_of_ble_eq_true rfl) rfl ?_
      refine g_goto X d_MO_goesRounds_18 2 (by decide) ?_
      refine g_sub [1, 0] rfl ?_
      exact ih _ _ hf
set_option maxRecDepth 10000 in
theorem c_MO_goesRounds' {Γ : Gm} {l : Launch} {σ σ' : Sg} {r : Int32} (hf : f_MO_goesRounds σ = some (r, σ')) : Ctr Γ l y_MO_goesRounds c_MO_goesRounds 5 none 1 23 [.ref (Γ.2.2.1 112)] σ σ' none := by
  refine Ctr.of (lv := [(0, .ref (Γ.2.2.1 112))]) (by decide +kernel) (Nat.le_of_ble_eq_true rfl) rfl ?_
  intro p e s m args below meth c X hr hk9
  have X : Cx Γ p (z_rm 1 23) s m args c c_MO_goesRounds 5 "CaptionTalliesModel" 0 0 := X
  rw [f_MO_goesRounds] at hf
  refine g_iconst X d_MO_goesRounds_0 (v := (nI 0)) rfl ?_
  refine g_istore_n X d_MO_goesRounds_1 rfl (lv' := [(1, .int (nI 0)), (0, .ref (Γ.2.2.1 112))]) (Nat.le_of_ble_eq_true rfl) rfl ?_
  refine g_sub [1, 0] rfl ?_
  exact w_MO_goesRounds_2 X hr hk9 _ _ _ hf
section
variable {R : Room} {kc ks : Nat} {Q : State → Prop} {nL : Nat} {cc : ByteArray} {own : String} {pc : Nat} {lv lv' : List (Nat × Value)} {st : List Value}
theorem ca_MO_goesRounds (X : Cx Γ p R s m args c cc nL own kc ks) {idx : Nat} (hd : decode cc pc = .ok (.invokevirtual idx, 3)) (hlk : Cond.methodLink own idx y_MO_goesRounds ∈ lw_gt) (hR : 1 + 1 ≤ R.frames ∧ 8 + (5 + 11) + 23 ≤ R.locals) (hw : (st.map fun v => v.category).sum ≤ 8) {σ σ' : Sg} {r : Int32} (hf : f_MO_goesRounds σ = some (r, σ')) (k : G Γ p l e R s m args below meth c kc ks Q nL (pc + 3) lv (st) σ') : G Γ p l e R s m args below meth c kc ks Q nL pc lv (.ref (Γ.2.2.1 112) :: st) σ :=
  g_callV (As := []) (rest := st) X hd (c_MO_goesRounds' hf) co_MO_goesRounds hlk wn_MO_goesRounds wse_MO_goesRounds (by decide) kd_112 rfl hR rfl rfl hw k
end
set_option maxRecDepth 10000 in
theorem c_MO_tally' {Γ : Gm} {l : Launch} {x1 : Int32} {σ σ' : Sg} {r : Int32} (hf : f_MO_tally x1 σ = some (r, σ')) : Ctr Γ l y_MO_tally c_MO_tally 2 (some .int) 0 0 [.ref (Γ.2.2.1 112), .int x1] σ σ' (some (.int r)) := by
  refine Ctr.of (lv := [(0, .ref (Γ.2.2.1 112)), (1, .int x1)]) (by decide +kernel) (Nat.le_of_ble_eq_true rfl) rfl ?_
  intro p e s m args below meth c X hr hk9
  have X : Cx Γ p (z_rm 0 0) s m args c c_MO_tally 2 "CaptionTalliesModel" 0 0 := X
  rw [f_MO_tally] at hf
  refine g_bipush X d_MO_tally_0 (v := (nI 10)) rfl ?_
  refine g_aload_n X d_MO_tally_2 0 rfl ?_
  refine gf_112_8 X d_MO_tally_3 wl_MO_25 ?_
  refine g_iload_n X d_MO_tally_6 1 rfl ?_
  obtain ⟨b1, hf⟩ := gd_some hf
  refine g_iald X d_MO_tally_7 kd_118 b1 ?_
  refine g_imul X d_MO_tally_8 ?_
  refine g_aload_n X d_MO_tally_9 0 rfl ?_
  refine gf_112_10 X d_MO_tally_10 wl_MO_31 ?_
  refine g_iload_n X d_MO_tally_13 1 rfl ?_
  obtain ⟨b2, hf⟩ := gd_some hf
  refine g_iald X d_MO_tally_14 kd_120 b2 ?_
  refine g_isub X d_MO_tally_15 ?_
  exact g_iret X d_MO_tally_16 hr hk9 hf
section
variable {R : Room} {kc ks : Nat} {Q : State → Prop} {nL : Nat} {cc : ByteArray} {own : String} {pc : Nat} {lv lv' : List (Nat × Value)} {st : List Value}
theorem ca_MO_tally {x1 : Int32} (X : Cx Γ p R s m args c cc nL own kc ks) {idx : Nat} (hd : decode cc pc = .ok (.invokevirtual idx, 3)) (hlk : Cond.methodLink own idx y_MO_tally ∈ lw_gt) (hR : 0 + 1 ≤ R.frames ∧ 8 + (2 + 11) + 0 ≤ R.locals) (hw : (st.map fun v => v.category).sum ≤ 8) {σ σ' : Sg} {r : Int32} (hf : f_MO_tally x1 σ = some (r, σ')) (k : G Γ p l e R s m args below meth c kc ks Q nL (pc + 3) lv (.int r :: st) σ') : G Γ p l e R s m args below meth c kc ks Q nL pc lv (.int x1 :: .ref (Γ.2.2.1 112) :: st) σ :=
  g_callV (As := [.int x1]) (rest := st) X hd (c_MO_tally' hf) co_MO_tally hlk wn_MO_tally wse_MO_tally (by decide) kd_112 rfl hR rfl rfl hw k
end
set_option maxRecDepth 10000 in
theorem w_MO_isAhead_74 {r : Int32} {σ' : Sg} (X : Cx Γ p (z_rm 1 21) s m args c c_MO_isAhead 4 "CaptionTalliesModel" 0 0) (hr : meth.sig.returnType = (some .boolean)) (hk9 : meth.locks = false)  (x3 : Int32) (σ : Sg) (hf : f_MO_isAhead_74 x3 σ = some (r, σ')) : G Γ p l e (z_rm 1 21) s m args below meth c 0 0 (MQ below (Qx Γ (some (.int r)) σ') args s 0 0 (fun q : Nat => Γ.2.2.2 ≤ q)) 4 74 [(3, .int x3)] [] σ := by
  rw [f_MO_isAhead_74] at hf
  refine g_iload_n X d_MO_isAhead_74 0 rfl ?_
  refine g_if_le X d_MO_isAhead_75 82 (by decide) (fun q1 => ?_) (fun q1 => ?_)
  · have hf := ite_t q1 hf
    refine g_iconst X d_MO_isAhead_82 (v := (nI 0)) rfl ?_
    exact g_zret X d_MO_isAhead_83 hr hk9 rfl hf
  · have hf := ite_f q1 hf
    refine g_iconst X d_MO_isAhead_78 (v := (nI 1)) rfl ?_
    refine g_goto X d_MO_isAhead_79 83 (by decide) ?_
    exact g_zret X d_MO_isAhead_83 hr hk9 rfl hf
set_option maxRecDepth 10000 in
theorem w_MO_isAhead_119 {r : Int32} {σ' : Sg} (X : Cx Γ p (z_rm 1 21) s m args c c_MO_isAhead 4 "CaptionTalliesModel" 0 0) (hr : meth.sig.returnType = (some .boolean)) (hk9 : meth.locks = false)  (x1 : Int32) (x2 : Int32) (t0 : Int32) (σ : Sg) (hf : f_MO_isAhead_119 x1 x2 t0 σ = some (r, σ')) : G Γ p l e (z_rm 1 21) s m args below meth c 0 0 (MQ below (Qx Γ (some (.int r)) σ') args s 0 0 (fun q : Nat => Γ.2.2.2 ≤ q)) 4 119 [(1, .int x1), (2, .int x2)] [.int t0] σ := by
  rw [f_MO_isAhead_119] at hf
  refine g_istore_n X d_MO_isAhead_119 rfl (lv' := [(3, .int t0), (1, .int x1), (2, .int x2)]) (Nat.le_of_ble_eq_true rfl) rfl ?_
  refine g_iload_n X d_MO_isAhead_120 0 rfl ?_
  refine g_if_gt X d_MO_isAhead_121 133 (by decide) (fun q1 => ?_) (fun q1 => ?_)
  · have hf := ite_t q1 hf
    refine g_iconst X d_MO_isAhead_133 (v := (nI 1)) rfl ?_
    refine g_goto X d_MO_isAhead_134 138 (by decide) ?_
    exact g_zret X d_MO_isAhead_138 hr hk9 rfl hf
  · have hf := ite_f q1 hf
    refine g_iload_n X d_MO_isAhead_124 0 rfl ?_
    refine g_if_ne X d_MO_isAhead_125 137 (by decide) (fun q2 => ?_) (fun q2 => ?_)
    · have hf := ite_f q2 hf
      refine g_iconst X d_MO_isAhead_137 (v := (nI 0)) rfl ?_
      exact g_zret X d_MO_isAhead_138 hr hk9 rfl hf
    · have hf := ite_t q2 hf
      refine g_iload_n X d_MO_isAhead_128 1 rfl ?_
      refine g_iload_n X d_MO_isAhead_129 2 rfl ?_
      refine g_ic_ge X d_MO_isAhead_130 137 (by decide) (fun q3 => ?_) (fun q3 => ?_)
      · have hf := ite_t q3 hf
        refine g_iconst X d_MO_isAhead_137 (v := (nI 0)) rfl ?_
        exact g_zret X d_MO_isAhead_138 hr hk9 rfl hf
      · have hf := ite_f q3 hf
        refine g_iconst X d_MO_isAhead_133 (v := (nI 1)) rfl ?_
        refine g_goto X d_MO_isAhead_134 138 (by decide) ?_
        exact g_zret X d_MO_isAhead_138 hr hk9 rfl hf
set_option maxRecDepth 10000 in
theorem c_MO_isAhead' {Γ : Gm} {l : Launch} {x1 : Int32} {x2 : Int32} {σ σ' : Sg} {r : Int32} (hf : f_MO_isAhead x1 x2 σ = some (r, σ')) : Ctr Γ l y_MO_isAhead c_MO_isAhead 4 (some .boolean) 1 21 [.ref (Γ.2.2.1 112), .int x1, .int x2] σ σ' (some (.int r)) := by
  refine Ctr.of (lv := [(0, .ref (Γ.2.2.1 112)), (1, .int x1), (2, .int x2)]) (by decide +kernel) (Nat.le_of_ble_eq_true rfl) rfl ?_
  intro p e s m args below meth c X hr hk9
  have X : Cx Γ p (z_rm 1 21) s m args c c_MO_isAhead 4 "CaptionTalliesModel" 0 0 := X
  rw [f_MO_isAhead] at hf
  refine g_aload_n X d_MO_isAhead_0 0 rfl ?_
  refine gf_112_0 X d_MO_isAhead_1 wl_MO_7 ?_
  refine g_iconst X d_MO_isAhead_4 (v := (nI 1)) rfl ?_
  obtain ⟨b1, hf⟩ := gd_some hf
  refine g_iald X d_MO_isAhead_5 kd_113 b1 ?_
  refine g_iconst X d_MO_isAhead_6 (v := (nI 1)) rfl ?_
  refine g_ic_ne X d_MO_isAhead_7 49 (by decide) (fun q2 => ?_) (fun q2 => ?_)
  · have hf := ite_f q2 hf
    refine g_aload_n X d_MO_isAhead_49 0 rfl ?_
    refine g_iload_n X d_MO_isAhead_50 1 rfl ?_
    obtain ⟨r3, σ4, er3, hf⟩ := bd_some hf
    refine ca_MO_tally X d_MO_isAhead_51 wl_MO_124 ⟨Nat.le_of_ble_eq_true rfl, Nat.le_of_ble_eq_true rfl⟩ (sum8 rfl) er3 ?_
    refine g_aload_n X d_MO_isAhead_54 0 rfl ?_
    refine g_iload_n X d_MO_isAhead_55 2 rfl ?_
    obtain ⟨r5, σ6, er5, hf⟩ := bd_some hf
    refine ca_MO_tally X d_MO_isAhead_56 wl_MO_124 ⟨Nat.le_of_ble_eq_true rfl, Nat.le_of_ble_eq_true rfl⟩ (sum8 rfl) er5 ?_
    refine g_isub X d_MO_isAhead_59 ?_
    obtain ⟨v7, ev7, hf⟩ := lt_ex hf
    refine g_top ev7 ?_
    refine g_istore_n X d_MO_isAhead_60 rfl (lv' := [(3, .int v7), (0, .ref (Γ.2.2.1 112)), (1, .int x1), (2, .int x2)]) (Nat.le_of_ble_eq_true rfl) rfl ?_
    refine g_iload_n X d_MO_isAhead_61 0 rfl ?_
    refine g_if_ne X d_MO_isAhead_62 74 (by decide) (fun q8 => ?_) (fun q8 => ?_)
    · have hf := ite_f q8 hf
      refine g_sub [0] rfl ?_
      exact w_MO_isAhead_74 X hr hk9 _ _ hf
    · have hf := ite_t q8 hf
      refine g_aload_n X d_MO_isAhead_65 1 rfl ?_
      refine gf_112_0 X d_MO_isAhead_66 wl_MO_7 ?_
      refine g_iconst X d_MO_isAhead_69 (v := (nI 3)) rfl ?_
      obtain ⟨b9, hf⟩ := gd_some hf
      refine g_iald X d_MO_isAhead_70 kd_113 b9 ?_
      refine g_if_ne X d_MO_isAhead_71 84 (by decide) (fun q10 => ?_) (fun q10 => ?_)
      · have hf := ite_f q10 hf
        refine g_aload_n X d_MO_isAhead_84 1 rfl ?_
        refine gf_112_9 X d_MO_isAhead_85 wl_MO_28 ?_
        refine g_iload_n X d_MO_isAhead_88 2 rfl ?_
        obtain ⟨b11, hf⟩ := gd_some hf
        refine g_iald X d_MO_isAhead_89 kd_119 b11 ?_
        refine g_aload_n X d_MO_isAhead_90 1 rfl ?_
        refine gf_112_9 X d_MO_isAhead_91 wl_MO_28 ?_
        refine g_iload_n X d_MO_isAhead_94 3 rfl ?_
        obtain ⟨b12, hf⟩ := gd_some hf
        refine g_iald X d_MO_isAhead_95 kd_119 b12 ?_
        refine g_isub X d_MO_isAhead_96 ?_
        obtain ⟨v13, ev13, hf⟩ := lt_ex hf
        refine g_top ev13 ?_
        refine g_istore_n X d_MO_isAhead_97 rfl (lv' := [(3, .int v13), (0, .ref (Γ.2.2.1 112)), (1, .int x1), (2, .int x2)]) (Nat.le_of_ble_eq_true rfl) rfl ?_
        refine g_iload_n X d_MO_isAhead_98 0 rfl ?_
        refine g_if_ne X d_MO_isAhead_99 118 (by decide) (fun q14 => ?_) (fun q14 => ?_)
        · have hf := ite_f q14 hf
          refine g_iload_n X d_MO_isAhead_118 0 rfl ?_
          refine g_sub [2, 3] rfl ?_
          exact w_MO_isAhead_119 X hr hk9 _ _ _ _ hf
        · have hf := ite_t q14 hf
          refine g_aload_n X d_MO_isAhead_102 1 rfl ?_
          refine gf_112_10 X d_MO_isAhead_103 wl_MO_31 ?_
          refine g_iload_n X d_MO_isAhead_106 3 rfl ?_
          obtain ⟨b15, hf⟩ := gd_some hf
          refine g_iald X d_MO_isAhead_107 kd_120 b15 ?_
          refine g_aload_n X d_MO_isAhead_108 1 rfl ?_
          refine gf_112_10 X d_MO_isAhead_109 wl_MO_31 ?_
          refine g_iload_n X d_MO_isAhead_112 2 rfl ?_
          obtain ⟨b16, hf⟩ := gd_some hf
          refine g_iald X d_MO_isAhead_113 kd_120 b16 ?_
          refine g_isub X d_MO_isAhead_114 ?_
          refine g_goto X d_MO_isAhead_115 119 (by decide) ?_
          refine g_sub [2, 3] rfl ?_
          exact w_MO_isAhead_119 X hr hk9 _ _ _ _ hf
      · have hf := ite_t q10 hf
        refine g_sub [0] rfl ?_
        exact w_MO_isAhead_74 X hr hk9 _ _ hf
  · have hf := ite_t q2 hf
    refine g_aload_n X d_MO_isAhead_10 0 rfl ?_
    refine gf_112_11 X d_MO_isAhead_11 wl_MO_34 ?_
    refine g_iload_n X d_MO_isAhead_14 2 rfl ?_
    obtain ⟨b17, hf⟩ := gd_some hf
    refine g_iald X d_MO_isAhead_15 kd_121 b17 ?_
    refine g_if_lt X d_MO_isAhead_16 47 (by decide) (fun q18 => ?_) (fun q18 => ?_)
    · have hf := ite_t q18 hf
      refine g_iconst X d_MO_isAhead_47 (v := (nI 0)) rfl ?_
      exact g_zret X d_MO_isAhead_48 hr hk9 rfl hf
    · have hf := ite_f q18 hf
      refine g_aload_n X d_MO_isAhead_19 0 rfl ?_
      refine gf_112_11 X d_MO_isAhead_20 wl_MO_34 ?_
      refine g_iload_n X d_MO_isAhead_23 1 rfl ?_
      obtain ⟨b19, hf⟩ := gd_some hf
      refine g_iald X d_MO_isAhead_24 kd_121 b19 ?_
      refine g_if_lt X d_MO_isAhead_25 43 (by decide) (fun q20 => ?_) (fun q20 => ?_)
      · have hf := ite_t q20 hf
        refine g_iconst X d_MO_isAhead_43 (v := (nI 1)) rfl ?_
        refine g_goto X d_MO_isAhead_44 48 (by decide) ?_
        exact g_zret X d_MO_isAhead_48 hr hk9 rfl hf
      · have hf := ite_f q20 hf
        refine g_aload_n X d_MO_isAhead_28 0 rfl ?_
        refine gf_112_11 X d_MO_isAhead_29 wl_MO_34 ?_
        refine g_iload_n X d_MO_isAhead_32 1 rfl ?_
        obtain ⟨b21, hf⟩ := gd_some hf
        refine g_iald X d_MO_isAhead_33 kd_121 b21 ?_
        refine g_aload_n X d_MO_isAhead_34 0 rfl ?_
        refine gf_112_11 X d_MO_isAhead_35 wl_MO_34 ?_
        refine g_iload_n X d_MO_isAhead_38 2 rfl ?_
        obtain ⟨b22, hf⟩ := gd_some hf
        refine g_iald X d_MO_isAhead_39 kd_121 b22 ?_
        refine g_ic_le X d_MO_isAhead_40 47 (by decide) (fun q23 => ?_) (fun q23 => ?_)
        · have hf := ite_t q23 hf
          refine g_iconst X d_MO_isAhead_47 (v := (nI 0)) rfl ?_
          exact g_zret X d_MO_isAhead_48 hr hk9 rfl hf
        · have hf := ite_f q23 hf
          refine g_iconst X d_MO_isAhead_43 (v := (nI 1)) rfl ?_
          refine g_goto X d_MO_isAhead_44 48 (by decide) ?_
          exact g_zret X d_MO_isAhead_48 hr hk9 rfl hf
section
variable {R : Room} {kc ks : Nat} {Q : State → Prop} {nL : Nat} {cc : ByteArray} {own : String} {pc : Nat} {lv lv' : List (Nat × Value)} {st : List Value}
theorem ca_MO_isAhead {x1 : Int32} {x2 : Int32} (X : Cx Γ p R s m args c cc nL own kc ks) {idx : Nat} (hd : decode cc pc = .ok (.invokevirtual idx, 3)) (hlk : Cond.methodLink own idx y_MO_isAhead ∈ lw_gt) (hR : 1 + 1 ≤ R.frames ∧ 8 + (4 + 11) + 21 ≤ R.locals) (hw : (st.map fun v => v.category).sum ≤ 8) {σ σ' : Sg} {r : Int32} (hf : f_MO_isAhead x1 x2 σ = some (r, σ')) (k : G Γ p l e R s m args below meth c kc ks Q nL (pc + 3) lv (.int r :: st) σ') : G Γ p l e R s m args below meth c kc ks Q nL pc lv (.int x2 :: .int x1 :: .ref (Γ.2.2.1 112) :: st) σ :=
  g_callV (As := [.int x1, .int x2]) (rest := st) X hd (c_MO_isAhead' hf) co_MO_isAhead hlk wn_MO_isAhead wse_MO_isAhead (by decide) kd_112 rfl hR rfl rfl hw k
end
set_option maxRecDepth 10000 in
theorem w_MO_orders_97 {K55 : Int32 → Int32 → Int32 → Int32 → Sg → Option (Int32 × Sg)} {r : Int32} {σ' : Sg} (X : Cx Γ p (z_rm 2 44) s m args c c_MO_orders 5 "CaptionTalliesModel" 0 0) (hr : meth.sig.returnType = none) (hk9 : meth.locks = false) (hK55 : ∀ (x1 : Int32) (x2 : Int32) (x3 : Int32) (x4 : Int32) (σ : Sg), K55 x1 x2 x3 x4 σ = some (r, σ') → G Γ p l e (z_rm 2 44) s m args below meth c 0 0 (MQ below (Qx Γ none σ') args s 0 0 (fun q : Nat => Γ.2.2.2 ≤ q)) 5 55 [(0, .ref (Γ.2.2.1 112)), (1, .int x1), (2, .int x2), (3, .int x3), (4, .int x4)] [] σ)  (x1 : Int32) (x3 : Int32) (x4 : Int32) (t0 : Int32) (t1 : Int32) (σ : Sg) (hf : f_MO_orders_97 K55 x1 x3 x4 t0 t1 σ = some (r, σ')) : G Γ p l e (z_rm 2 44) s m args below meth c 0 0 (MQ below (Qx Γ none σ') args s 0 0 (fun q : Nat => Γ.2.2.2 ≤ q)) 5 97 [(0, .ref (Γ.2.2.1 112)), (1, .int x1), (3, .int x3), (4, .int x4)] [.int t0, .int t1] σ := by
  rw [f_MO_orders_97] at hf
  refine g_iadd X d_MO_orders_97 ?_
  obtain ⟨v1, ev1, hf⟩ := lt_ex hf
  refine g_top ev1 ?_
  refine g_istore_n X d_MO_orders_98 rfl (lv' := [(2, .int v1), (0, .ref (Γ.2.2.1 112)), (1, .int x1), (3, .int x3), (4, .int x4)]) (Nat.le_of_ble_eq_true rfl) rfl ?_
  refine g_iload_n X d_MO_orders_99 3 rfl ?_
  refine g_aload_n X d_MO_orders_100 1 rfl ?_
  refine g_iload X d_MO_orders_101 4 rfl ?_
  refine g_iload_n X d_MO_orders_103 2 rfl ?_
  obtain ⟨r2, σ3, er2, hf⟩ := bd_some hf
  refine ca_MO_isAhead X d_MO_orders_104 wl_MO_127 ⟨Nat.le_of_ble_eq_true rfl, Nat.le_of_ble_eq_true rfl⟩ (sum8 rfl) er2 ?_
  refine g_if_ne X d_MO_orders_107 126 (by decide) (fun q4 => ?_) (fun q4 => ?_)
  · have hf := ite_f q4 hf
    refine g_iconst X d_MO_orders_126 (v := (nI 1)) rfl ?_
    refine g_goto X d_MO_orders_127 131 (by decide) ?_
    refine g_iadd X d_MO_orders_131 ?_
    obtain ⟨v5, ev5, hf⟩ := lt_ex hf
    refine g_top ev5 ?_
    refine g_istore_n X d_MO_orders_132 rfl (lv' := [(3, .int v5), (2, .int v1), (0, .ref (Γ.2.2.1 112)), (1, .int x1), (4, .int x4)]) (Nat.le_of_ble_eq_true rfl) rfl ?_
    refine g_iinc X d_MO_orders_133 (j := 4) (lv' := [(4, .int (x4 + (nI 1))), (3, .int v5), (2, .int v1), (0, .ref (Γ.2.2.1 112)), (1, .int x1)]) rfl rfl (Nat.le_of_ble_eq_true rfl) rfl ?_
    refine g_goto X d_MO_orders_136 55 (by decide) ?_
    refine g_sub [3, 4, 2, 1, 0] rfl ?_
    exact hK55 _ _ _ _ _ hf
  · have hf := ite_t q4 hf
    refine g_aload_n X d_MO_orders_110 1 rfl ?_
    refine g_iload_n X d_MO_orders_111 2 rfl ?_
    refine g_iload X d_MO_orders_112 4 rfl ?_
    obtain ⟨r6, σ7, er6, hf⟩ := bd_some hf
    refine ca_MO_isAhead X d_MO_orders_114 wl_MO_127 ⟨Nat.le_of_ble_eq_true rfl, Nat.le_of_ble_eq_true rfl⟩ (sum8 rfl) er6 ?_
    refine g_if_ne X d_MO_orders_117 130 (by decide) (fun q8 => ?_) (fun q8 => ?_)
    · have hf := ite_f q8 hf
      refine g_iconst X d_MO_orders_130 (v := (nI 0)) rfl ?_
      refine g_iadd X d_MO_orders_131 ?_
      obtain ⟨v9, ev9, hf⟩ := lt_ex hf
      refine g_top ev9 ?_
      refine g_istore_n X d_MO_orders_132 rfl (lv' := [(3, .int v9), (2, .int v1), (0, .ref (Γ.2.2.1 112)), (1, .int x1), (4, .int x4)]) (Nat.le_of_ble_eq_true rfl) rfl ?_
      refine g_iinc X d_MO_orders_133 (j := 4) (lv' := [(4, .int (x4 + (nI 1))), (3, .int v9), (2, .int v1), (0, .ref (Γ.2.2.1 112)), (1, .int x1)]) rfl rfl (Nat.le_of_ble_eq_true rfl) rfl ?_
      refine g_goto X d_MO_orders_136 55 (by decide) ?_
      refine g_sub [3, 4, 2, 1, 0] rfl ?_
      exact hK55 _ _ _ _ _ hf
    · have hf := ite_t q8 hf
      refine g_iload X d_MO_orders_120 4 rfl ?_
      refine g_iload_n X d_MO_orders_122 2 rfl ?_
      refine g_ic_ge X d_MO_orders_123 130 (by decide) (fun q10 => ?_) (fun q10 => ?_)
      · have hf := ite_t q10 hf
        refine g_iconst X d_MO_orders_130 (v := (nI 0)) rfl ?_
        refine g_iadd X d_MO_orders_131 ?_
        obtain ⟨v11, ev11, hf⟩ := lt_ex hf
        refine g_top ev11 ?_
        refine g_istore_n X d_MO_orders_132 rfl (lv' := [(3, .int v11), (2, .int v1), (0, .ref (Γ.2.2.1 112)), (1, .int x1), (4, .int x4)]) (Nat.le_of_ble_eq_true rfl) rfl ?_
        refine g_iinc X d_MO_orders_133 (j := 4) (lv' := [(4, .int (x4 + (nI 1))), (3, .int v11), (2, .int v1), (0, .ref (Γ.2.2.1 112)), (1, .int x1)]) rfl rfl (Nat.le_of_ble_eq_true rfl) rfl ?_
        refine g_goto X d_MO_orders_136 55 (by decide) ?_
        refine g_sub [3, 4, 2, 1, 0] rfl ?_
        exact hK55 _ _ _ _ _ hf
      · have hf := ite_f q10 hf
        refine g_iconst X d_MO_orders_126 (v := (nI 1)) rfl ?_
        refine g_goto X d_MO_orders_127 131 (by decide) ?_
        refine g_iadd X d_MO_orders_131 ?_
        obtain ⟨v12, ev12, hf⟩ := lt_ex hf
        refine g_top ev12 ?_
        refine g_istore_n X d_MO_orders_132 rfl (lv' := [(3, .int v12), (2, .int v1), (0, .ref (Γ.2.2.1 112)), (1, .int x1), (4, .int x4)]) (Nat.le_of_ble_eq_true rfl) rfl ?_
        refine g_iinc X d_MO_orders_133 (j := 4) (lv' := [(4, .int (x4 + (nI 1))), (3, .int v12), (2, .int v1), (0, .ref (Γ.2.2.1 112)), (1, .int x1)]) rfl rfl (Nat.le_of_ble_eq_true rfl) rfl ?_
        refine g_goto X d_MO_orders_136 55 (by decide) ?_
        refine g_sub [3, 4, 2, 1, 0] rfl ?_
        exact hK55 _ _ _ _ _ hf
set_option maxRecDepth 10000 in
theorem w_MO_orders_55 {K30 : Int32 → Sg → Option (Int32 × Sg)} {r : Int32} {σ' : Sg} (X : Cx Γ p (z_rm 2 44) s m args c c_MO_orders 5 "CaptionTalliesModel" 0 0) (hr : meth.sig.returnType = none) (hk9 : meth.locks = false) (hK30 : ∀ (x1 : Int32) (σ : Sg), K30 x1 σ = some (r, σ') → G Γ p l e (z_rm 2 44) s m args below meth c 0 0 (MQ below (Qx Γ none σ') args s 0 0 (fun q : Nat => Γ.2.2.2 ≤ q)) 5 30 [(0, .ref (Γ.2.2.1 112)), (1, .int x1)] [] σ) : ∀ (n9 : Nat) (x1 : Int32) (x2 : Int32) (x3 : Int32) (x4 : Int32) (σ : Sg), f_MO_orders_55 K30 n9 x1 x2 x3 x4 σ = some (r, σ') → G Γ p l e (z_rm 2 44) s m args below meth c 0 0 (MQ below (Qx Γ none σ') args s 0 0 (fun q : Nat => Γ.2.2.2 ≤ q)) 5 55 [(0, .ref (Γ.2.2.1 112)), (1, .int x1), (2, .int x2), (3, .int x3), (4, .int x4)] [] σ := by
  intro n9
  induction n9 with
  | zero => intro x1 x2 x3 x4 σ hf; cases hf
  | succ n9 ih =>
    intro x1 x2 x3 x4 σ hf
    rw [f_MO_orders_55] at hf
    refine g_iload X d_MO_orders_55 4 rfl ?_
    refine g_aload_n X d_MO_orders_57 0 rfl ?_
    refine gf_112_0 X d_MO_orders_58 wl_MO_7 ?_
    refine g_iconst X d_MO_orders_61 (v := (nI 0)) rfl ?_
    obtain ⟨b1, hf⟩ := gd_some hf
    refine g_iald X d_MO_orders_62 kd_113 b1 ?_
    refine g_ic_ge X d_MO_orders_63 139 (by decide) (fun q2 => ?_) (fun q2 => ?_)
    · have hf := ite_t q2 hf
      refine g_aload_n X d_MO_orders_139 0 rfl ?_
      refine gf_112_15 X d_MO_orders_140 wl_MO_46 ?_
      refine g_iload_n X d_MO_orders_143 1 rfl ?_
      refine g_iconst X d_MO_orders_144 (v := (nI 1)) rfl ?_
      refine g_iload_n X d_MO_orders_145 2 rfl ?_
      refine g_iadd X d_MO_orders_146 ?_
      obtain ⟨b3, hf⟩ := gd_some hf
      obtain ⟨σ4, eσ4, hf⟩ := lt_ex hf
      refine g_iast X d_MO_orders_147 kd_125 b3 eσ4 ?_
      refine g_aload_n X d_MO_orders_148 0 rfl ?_
      refine gf_112_16 X d_MO_orders_149 wl_MO_49 ?_
      refine g_iload_n X d_MO_orders_152 3 rfl ?_
      refine g_iload_n X d_MO_orders_153 1 rfl ?_
      obtain ⟨b5, hf⟩ := gd_some hf
      obtain ⟨σ6, eσ6, hf⟩ := lt_ex hf
      refine g_iast X d_MO_orders_154 kd_126 b5 eσ6 ?_
      refine g_iinc X d_MO_orders_155 (j := 1) (lv' := [(1, .int (x1 + (nI 1))), (0, .ref (Γ.2.2.1 112)), (2, .int x2), (3, .int x3), (4, .int x4)]) rfl rfl (Nat.le_of_ble_eq_true rfl) rfl ?_
      refine g_goto X d_MO_orders_158 30 (by decide) ?_
      refine g_sub [1, 0] rfl ?_
      exact hK30 _ _ hf
    · have hf := ite_f q2 hf
      refine g_aload_n X d_MO_orders_66 0 rfl ?_
      refine g_iload X d_MO_orders_67 4 rfl ?_
      obtain ⟨r7, σ8, er7, hf⟩ := bd_some hf
      refine ca_MO_isHead X d_MO_orders_69 wl_MO_109 ⟨Nat.le_of_ble_eq_true rfl, Nat.le_of_ble_eq_true rfl⟩ (sum8 rfl) er7 ?_
      refine g_if_eq X d_MO_orders_72 133 (by decide) (fun q9 => ?_) (fun q9 => ?_)
      · have hf := ite_t q9 hf
        refine g_iinc X d_MO_orders_133 (j := 4) (lv' := [(4, .int (x4 + (nI 1))), (0, .ref (Γ.2.2.1 112)), (1, .int x1), (2, .int x2), (3, .int x3)]) rfl rfl (Nat.le_of_ble_eq_true rfl) rfl ?_
        refine g_goto X d_MO_orders_136 55 (by decide) ?_
        refine g_sub [1, 2, 3, 4, 0] rfl ?_
        exact ih _ _ _ _ _ hf
      · have hf := ite_f q9 hf
        refine g_iload X d_MO_orders_75 4 rfl ?_
        refine g_iload_n X d_MO_orders_77 1 rfl ?_
        refine g_ic_eq X d_MO_orders_78 133 (by decide) (fun q10 => ?_) (fun q10 => ?_)
        · have hf := ite_t q10 hf
          refine g_iinc X d_MO_orders_133 (j := 4) (lv' := [(4, .int (x4 + (nI 1))), (0, .ref (Γ.2.2.1 112)), (1, .int x1), (2, .int x2), (3, .int x3)]) rfl rfl (Nat.le_of_ble_eq_true rfl) rfl ?_
          refine g_goto X d_MO_orders_136 55 (by decide) ?_
          refine g_sub [1, 2, 3, 4, 0] rfl ?_
          exact ih _ _ _ _ _ hf
        · have hf := ite_f q10 hf
          refine g_iload_n X d_MO_orders_81 2 rfl ?_
          refine g_aload_n X d_MO_orders_82 0 rfl ?_
          refine g_iload X d_MO_orders_83 4 rfl ?_
          refine g_iload_n X d_MO_orders_85 1 rfl ?_
          obtain ⟨r11, σ12, er11, hf⟩ := bd_some hf
          refine ca_MO_isAhead X d_MO_orders_86 wl_MO_127 ⟨Nat.le_of_ble_eq_true rfl, Nat.le_of_ble_eq_true rfl⟩ (sum8 rfl) er11 ?_
          refine g_if_eq X d_MO_orders_89 96 (by decide) (fun q13 => ?_) (fun q13 => ?_)
          · have hf := ite_t q13 hf
            refine g_iconst X d_MO_orders_96 (v := (nI 0)) rfl ?_
            refine g_sub [0, 1, 3, 4] rfl ?_
            exact w_MO_orders_97 X hr hk9 ih _ _ _ _ _ _ hf
          · have hf := ite_f q13 hf
            refine g_iconst X d_MO_orders_92 (v := (nI 1)) rfl ?_
            refine g_goto X d_MO_orders_93 97 (by decide) ?_
            refine g_sub [0, 1, 3, 4] rfl ?_
            exact w_MO_orders_97 X hr hk9 ih _ _ _ _ _ _ hf
set_option maxRecDepth 10000 in
theorem w_MO_orders_30 {r : Int32} {σ' : Sg} (X : Cx Γ p (z_rm 2 44) s m args c c_MO_orders 5 "CaptionTalliesModel" 0 0) (hr : meth.sig.returnType = none) (hk9 : meth.locks = false) : ∀ (n9 : Nat) (x1 : Int32) (σ : Sg), f_MO_orders_30 n9 x1 σ = some (r, σ') → G Γ p l e (z_rm 2 44) s m args below meth c 0 0 (MQ below (Qx Γ none σ') args s 0 0 (fun q : Nat => Γ.2.2.2 ≤ q)) 5 30 [(0, .ref (Γ.2.2.1 112)), (1, .int x1)] [] σ := by
  intro n9
  induction n9 with
  | zero => intro x1 σ hf; cases hf
  | succ n9 ih =>
    intro x1 σ hf
    rw [f_MO_orders_30] at hf
    refine g_iload_n X d_MO_orders_30 1 rfl ?_
    refine g_aload_n X d_MO_orders_31 0 rfl ?_
    refine gf_112_0 X d_MO_orders_32 wl_MO_7 ?_
    refine g_iconst X d_MO_orders_35 (v := (nI 0)) rfl ?_
    obtain ⟨b1, hf⟩ := gd_some hf
    refine g_iald X d_MO_orders_36 kd_113 b1 ?_
    refine g_ic_ge X d_MO_orders_37 161 (by decide) (fun q2 => ?_) (fun q2 => ?_)
    · have hf := ite_t q2 hf
      exact g_vret X d_MO_orders_161 hr hk9 hf
    · have hf := ite_f q2 hf
      refine g_aload_n X d_MO_orders_40 0 rfl ?_
      refine g_iload_n X d_MO_orders_41 1 rfl ?_
      obtain ⟨r3, σ4, er3, hf⟩ := bd_some hf
      refine ca_MO_isHead X d_MO_orders_42 wl_MO_109 ⟨Nat.le_of_ble_eq_true rfl, Nat.le_of_ble_eq_true rfl⟩ (sum8 rfl) er3 ?_
      refine g_if_eq X d_MO_orders_45 155 (by decide) (fun q5 => ?_) (fun q5 => ?_)
      · have hf := ite_t q5 hf
        refine g_iinc X d_MO_orders_155 (j := 1) (lv' := [(1, .int (x1 + (nI 1))), (0, .ref (Γ.2.2.1 112))]) rfl rfl (Nat.le_of_ble_eq_true rfl) rfl ?_
        refine g_goto X d_MO_orders_158 30 (by decide) ?_
        refine g_sub [1, 0] rfl ?_
        exact ih _ _ hf
      · have hf := ite_f q5 hf
        refine g_iconst X d_MO_orders_48 (v := (nI 0)) rfl ?_
        refine g_istore_n X d_MO_orders_49 rfl (lv' := [(2, .int (nI 0)), (0, .ref (Γ.2.2.1 112)), (1, .int x1)]) (Nat.le_of_ble_eq_true rfl) rfl ?_
        refine g_iconst X d_MO_orders_50 (v := (nI 0)) rfl ?_
        refine g_istore_n X d_MO_orders_51 rfl (lv' := [(3, .int (nI 0)), (2, .int (nI 0)), (0, .ref (Γ.2.2.1 112)), (1, .int x1)]) (Nat.le_of_ble_eq_true rfl) rfl ?_
        refine g_iconst X d_MO_orders_52 (v := (nI 0)) rfl ?_
        refine g_istore X d_MO_orders_53 (lv' := [(4, .int (nI 0)), (3, .int (nI 0)), (2, .int (nI 0)), (0, .ref (Γ.2.2.1 112)), (1, .int x1)]) (Nat.le_of_ble_eq_true rfl) rfl ?_
        refine g_sub [3, 4, 2, 1, 0] rfl ?_
        exact w_MO_orders_55 X hr hk9 ih _ _ _ _ _ _ hf
set_option maxRecDepth 10000 in
theorem w_MO_orders_2 {r : Int32} {σ' : Sg} (X : Cx Γ p (z_rm 2 44) s m args c c_MO_orders 5 "CaptionTalliesModel" 0 0) (hr : meth.sig.returnType = none) (hk9 : meth.locks = false) : ∀ (n9 : Nat) (x1 : Int32) (σ : Sg), f_MO_orders_2 n9 x1 σ = some (r, σ') → G Γ p l e (z_rm 2 44) s m args below meth c 0 0 (MQ below (Qx Γ none σ') args s 0 0 (fun q : Nat => Γ.2.2.2 ≤ q)) 5 2 [(0, .ref (Γ.2.2.1 112)), (1, .int x1)] [] σ := by
  intro n9
  induction n9 with
  | zero => intro x1 σ hf; cases hf
  | succ n9 ih =>
    intro x1 σ hf
    rw [f_MO_orders_2] at hf
    refine g_iload_n X d_MO_orders_2 1 rfl ?_
    refine g_bipush X d_MO_orders_3 (v := (nI 20)) rfl ?_
    refine g_ic_ge X d_MO_orders_5 28 (by decide) (fun q1 => ?_) (fun q1 => ?_)
    · have hf := ite_t q1 hf
      refine g_iconst X d_MO_orders_28 (v := (nI 0)) rfl ?_
      refine g_istore_n X d_MO_orders_29 rfl (lv' := [(1, .int (nI 0)), (0, .ref (Γ.2.2.1 112))]) (Nat.le_of_ble_eq_true rfl) rfl ?_
      refine g_sub [1, 0] rfl ?_
      exact w_MO_orders_30 X hr hk9 _ _ _ hf
    · have hf := ite_f q1 hf
      refine g_aload_n X d_MO_orders_8 0 rfl ?_
      refine gf_112_15 X d_MO_orders_9 wl_MO_46 ?_
      refine g_iload_n X d_MO_orders_12 1 rfl ?_
      refine g_iconst X d_MO_orders_13 (v := (nI 0)) rfl ?_
      obtain ⟨b2, hf⟩ := gd_some hf
      obtain ⟨σ3, eσ3, hf⟩ := lt_ex hf
      refine g_iast X d_MO_orders_14 kd_125 b2 eσ3 ?_
      refine g_aload_n X d_MO_orders_15 0 rfl ?_
      refine gf_112_17 X d_MO_orders_16 wl_MO_52 ?_
      refine g_iload_n X d_MO_orders_19 1 rfl ?_
      refine g_iconst X d_MO_orders_20 (v := (nI 0)) rfl ?_
      obtain ⟨b4, hf⟩ := gd_some hf
      obtain ⟨σ5, eσ5, hf⟩ := lt_ex hf
      refine g_iast X d_MO_orders_21 kd_127 b4 eσ5 ?_
      refine g_iinc X d_MO_orders_22 (j := 1) (lv' := [(1, .int (x1 + (nI 1))), (0, .ref (Γ.2.2.1 112))]) rfl rfl (Nat.le_of_ble_eq_true rfl) rfl ?_
      refine g_goto X d_MO_orders_25 2 (by decide) ?_
      refine g_sub [1, 0] rfl ?_
      exact ih _ _ hf
set_option maxRecDepth 10000 in
theorem c_MO_orders' {Γ : Gm} {l : Launch} {σ σ' : Sg} {r : Int32} (hf : f_MO_orders σ = some (r, σ')) : Ctr Γ l y_MO_orders c_MO_orders 5 none 2 44 [.ref (Γ.2.2.1 112)] σ σ' none := by
  refine Ctr.of (lv := [(0, .ref (Γ.2.2.1 112))]) (by decide +kernel) (Nat.le_of_ble_eq_true rfl) rfl ?_
  intro p e s m args below meth c X hr hk9
  have X : Cx Γ p (z_rm 2 44) s m args c c_MO_orders 5 "CaptionTalliesModel" 0 0 := X
  rw [f_MO_orders] at hf
  refine g_iconst X d_MO_orders_0 (v := (nI 0)) rfl ?_
  refine g_istore_n X d_MO_orders_1 rfl (lv' := [(1, .int (nI 0)), (0, .ref (Γ.2.2.1 112))]) (Nat.le_of_ble_eq_true rfl) rfl ?_
  refine g_sub [1, 0] rfl ?_
  exact w_MO_orders_2 X hr hk9 _ _ _ hf
section
variable {R : Room} {kc ks : Nat} {Q : State → Prop} {nL : Nat} {cc : ByteArray} {own : String} {pc : Nat} {lv lv' : List (Nat × Value)} {st : List Value}
theorem ca_MO_orders (X : Cx Γ p R s m args c cc nL own kc ks) {idx : Nat} (hd : decode cc pc = .ok (.invokevirtual idx, 3)) (hlk : Cond.methodLink own idx y_MO_orders ∈ lw_gt) (hR : 2 + 1 ≤ R.frames ∧ 8 + (5 + 11) + 44 ≤ R.locals) (hw : (st.map fun v => v.category).sum ≤ 8) {σ σ' : Sg} {r : Int32} (hf : f_MO_orders σ = some (r, σ')) (k : G Γ p l e R s m args below meth c kc ks Q nL (pc + 3) lv (st) σ') : G Γ p l e R s m args below meth c kc ks Q nL pc lv (.ref (Γ.2.2.1 112) :: st) σ :=
  g_callV (As := []) (rest := st) X hd (c_MO_orders' hf) co_MO_orders hlk wn_MO_orders wse_MO_orders (by decide) kd_112 rfl hR rfl rfl hw k
end
set_option maxRecDepth 10000 in
theorem c_MO_prizeOf' {Γ : Gm} {l : Launch} {x1 : Int32} {σ σ' : Sg} {r : Int32} (hf : f_MO_prizeOf x1 σ = some (r, σ')) : Ctr Γ l y_MO_prizeOf c_MO_prizeOf 2 (some .int) 0 0 [.ref (Γ.2.2.1 112), .int x1] σ σ' (some (.int r)) := by
  refine Ctr.of (lv := [(0, .ref (Γ.2.2.1 112)), (1, .int x1)]) (by decide +kernel) (Nat.le_of_ble_eq_true rfl) rfl ?_
  intro p e s m args below meth c X hr hk9
  have X : Cx Γ p (z_rm 0 0) s m args c c_MO_prizeOf 2 "CaptionTalliesModel" 0 0 := X
  rw [f_MO_prizeOf] at hf
  refine g_iload_n X d_MO_prizeOf_0 1 rfl ?_
  refine g_aload_n X d_MO_prizeOf_1 0 rfl ?_
  refine gf_112_0 X d_MO_prizeOf_2 wl_MO_7 ?_
  refine g_iconst X d_MO_prizeOf_5 (v := (nI 2)) rfl ?_
  obtain ⟨b1, hf⟩ := gd_some hf
  refine g_iald X d_MO_prizeOf_6 kd_113 b1 ?_
  refine g_ic_gt X d_MO_prizeOf_7 23 (by decide) (fun q2 => ?_) (fun q2 => ?_)
  · have hf := ite_t q2 hf
    refine g_iconst X d_MO_prizeOf_23 (v := (nI 0)) rfl ?_
    exact g_iret X d_MO_prizeOf_24 hr hk9 hf
  · have hf := ite_f q2 hf
    refine g_aload_n X d_MO_prizeOf_10 0 rfl ?_
    refine gf_112_0 X d_MO_prizeOf_11 wl_MO_7 ?_
    refine g_iconst X d_MO_prizeOf_14 (v := (nI 4)) rfl ?_
    refine g_iload_n X d_MO_prizeOf_15 1 rfl ?_
    refine g_iadd X d_MO_prizeOf_16 ?_
    refine g_iconst X d_MO_prizeOf_17 (v := (nI 1)) rfl ?_
    refine g_isub X d_MO_prizeOf_18 ?_
    obtain ⟨b3, hf⟩ := gd_some hf
    refine g_iald X d_MO_prizeOf_19 kd_113 b3 ?_
    refine g_goto X d_MO_prizeOf_20 24 (by decide) ?_
    exact g_iret X d_MO_prizeOf_24 hr hk9 hf
section
variable {R : Room} {kc ks : Nat} {Q : State → Prop} {nL : Nat} {cc : ByteArray} {own : String} {pc : Nat} {lv lv' : List (Nat × Value)} {st : List Value}
theorem ca_MO_prizeOf {x1 : Int32} (X : Cx Γ p R s m args c cc nL own kc ks) {idx : Nat} (hd : decode cc pc = .ok (.invokevirtual idx, 3)) (hlk : Cond.methodLink own idx y_MO_prizeOf ∈ lw_gt) (hR : 0 + 1 ≤ R.frames ∧ 8 + (2 + 11) + 0 ≤ R.locals) (hw : (st.map fun v => v.category).sum ≤ 8) {σ σ' : Sg} {r : Int32} (hf : f_MO_prizeOf x1 σ = some (r, σ')) (k : G Γ p l e R s m args below meth c kc ks Q nL (pc + 3) lv (.int r :: st) σ') : G Γ p l e R s m args below meth c kc ks Q nL pc lv (.int x1 :: .ref (Γ.2.2.1 112) :: st) σ :=
  g_callV (As := [.int x1]) (rest := st) X hd (c_MO_prizeOf' hf) co_MO_prizeOf hlk wn_MO_prizeOf wse_MO_prizeOf (by decide) kd_112 rfl hR rfl rfl hw k
end
set_option maxRecDepth 10000 in
theorem w_MO_shares_90 {K49 : Int32 → Int32 → Int32 → Int32 → Int32 → Sg → Option (Int32 × Sg)} {r : Int32} {σ' : Sg} (X : Cx Γ p (z_rm 0 0) s m args c c_MO_shares 6 "CaptionTalliesModel" 0 0) (hr : meth.sig.returnType = none) (hk9 : meth.locks = false) (hK49 : ∀ (x1 : Int32) (x2 : Int32) (x3 : Int32) (x4 : Int32) (x5 : Int32) (σ : Sg), K49 x1 x2 x3 x4 x5 σ = some (r, σ') → G Γ p l e (z_rm 0 0) s m args below meth c 0 0 (MQ below (Qx Γ none σ') args s 0 0 (fun q : Nat => Γ.2.2.2 ≤ q)) 6 49 [(0, .ref (Γ.2.2.1 112)), (1, .int x1), (2, .int x2), (3, .int x3), (4, .int x4), (5, .int x5)] [] σ)  (x1 : Int32) (x2 : Int32) (x3 : Int32) (x4 : Int32) (x5 : Int32) (t0 : Int32) (t1 : Int32) (t2 : Int32) (σ : Sg) (hf : f_MO_shares_90 K49 x1 x2 x3 x4 x5 t0 t1 t2 σ = some (r, σ')) : G Γ p l e (z_rm 0 0) s m args below meth c 0 0 (MQ below (Qx Γ none σ') args s 0 0 (fun q : Nat => Γ.2.2.2 ≤ q)) 6 90 [(0, .ref (Γ.2.2.1 112)), (1, .int x1), (2, .int x2), (3, .int x3), (4, .int x4), (5, .int x5)] [.int t0, .int t1, .int t2, .ref (Γ.2.2.1 127)] σ := by
  rw [f_MO_shares_90] at hf
  refine g_iadd X d_MO_shares_90 ?_
  obtain ⟨b1, hf⟩ := gd_some hf
  obtain ⟨σ2, eσ2, hf⟩ := lt_ex hf
  refine g_iast X d_MO_shares_91 kd_127 b1 eσ2 ?_
  refine g_iinc X d_MO_shares_92 (j := 4) (lv' := [(4, .int (x4 + (-1))), (0, .ref (Γ.2.2.1 112)), (1, .int x1), (2, .int x2), (3, .int x3), (5, .int x5)]) rfl rfl (Nat.le_of_ble_eq_true rfl) rfl ?_
  refine g_iinc X d_MO_shares_95 (j := 5) (lv' := [(5, .int (x5 + (nI 1))), (4, .int (x4 + (-1))), (0, .ref (Γ.2.2.1 112)), (1, .int x1), (2, .int x2), (3, .int x3)]) rfl rfl (Nat.le_of_ble_eq_true rfl) rfl ?_
  refine g_goto X d_MO_shares_98 49 (by decide) ?_
  refine g_sub [2, 3, 4, 5, 1, 0] rfl ?_
  exact hK49 _ _ _ _ _ _ hf
set_option maxRecDepth 10000 in
theorem w_MO_shares_49 {r : Int32} {σ' : Sg} (X : Cx Γ p (z_rm 0 0) s m args c c_MO_shares 6 "CaptionTalliesModel" 0 0) (hr : meth.sig.returnType = none) (hk9 : meth.locks = false) : ∀ (n9 : Nat) (x1 : Int32) (x2 : Int32) (x3 : Int32) (x4 : Int32) (x5 : Int32) (σ : Sg), f_MO_shares_49 n9 x1 x2 x3 x4 x5 σ = some (r, σ') → G Γ p l e (z_rm 0 0) s m args below meth c 0 0 (MQ below (Qx Γ none σ') args s 0 0 (fun q : Nat => Γ.2.2.2 ≤ q)) 6 49 [(0, .ref (Γ.2.2.1 112)), (1, .int x1), (2, .int x2), (3, .int x3), (4, .int x4), (5, .int x5)] [] σ := by
  intro n9
  induction n9 with
  | zero => intro x1 x2 x3 x4 x5 σ hf; cases hf
  | succ n9 ih =>
    intro x1 x2 x3 x4 x5 σ hf
    rw [f_MO_shares_49] at hf
    refine g_iload X d_MO_shares_49 5 rfl ?_
    refine g_aload_n X d_MO_shares_51 0 rfl ?_
    refine gf_112_0 X d_MO_shares_52 wl_MO_7 ?_
    refine g_iconst X d_MO_shares_55 (v := (nI 0)) rfl ?_
    obtain ⟨b1, hf⟩ := gd_some hf
    refine g_iald X d_MO_shares_56 kd_113 b1 ?_
    refine g_ic_ge X d_MO_shares_57 101 (by decide) (fun q2 => ?_) (fun q2 => ?_)
    · have hf := ite_t q2 hf
      exact g_vret X d_MO_shares_101 hr hk9 hf
    · have hf := ite_f q2 hf
      refine g_aload_n X d_MO_shares_60 0 rfl ?_
      refine gf_112_7 X d_MO_shares_61 wl_MO_22 ?_
      refine g_iload X d_MO_shares_64 5 rfl ?_
      obtain ⟨b3, hf⟩ := gd_some hf
      refine g_iald X d_MO_shares_66 kd_117 b3 ?_
      refine g_iload_n X d_MO_shares_67 1 rfl ?_
      refine g_ic_ne X d_MO_shares_68 95 (by decide) (fun q4 => ?_) (fun q4 => ?_)
      · have hf := ite_f q4 hf
        refine g_iinc X d_MO_shares_95 (j := 5) (lv' := [(5, .int (x5 + (nI 1))), (0, .ref (Γ.2.2.1 112)), (1, .int x1), (2, .int x2), (3, .int x3), (4, .int x4)]) rfl rfl (Nat.le_of_ble_eq_true rfl) rfl ?_
        refine g_goto X d_MO_shares_98 49 (by decide) ?_
        refine g_sub [1, 2, 3, 4, 5, 0] rfl ?_
        exact ih _ _ _ _ _ _ hf
      · have hf := ite_t q4 hf
        refine g_aload_n X d_MO_shares_71 0 rfl ?_
        refine gf_112_17 X d_MO_shares_72 wl_MO_52 ?_
        refine g_iload X d_MO_shares_75 5 rfl ?_
        refine g_iload_n X d_MO_shares_77 2 rfl ?_
        refine g_iload_n X d_MO_shares_78 3 rfl ?_
        obtain ⟨b5, hf⟩ := gd_some hf
        refine g_idiv X d_MO_shares_79 (nz_of b5) ?_
        refine g_iload X d_MO_shares_80 4 rfl ?_
        refine g_if_le X d_MO_shares_82 89 (by decide) (fun q6 => ?_) (fun q6 => ?_)
        · have hf := ite_t q6 hf
          refine g_iconst X d_MO_shares_89 (v := (nI 0)) rfl ?_
          exact w_MO_shares_90 X hr hk9 ih _ _ _ _ _ _ _ _ _ hf
        · have hf := ite_f q6 hf
          refine g_iconst X d_MO_shares_85 (v := (nI 1)) rfl ?_
          refine g_goto X d_MO_shares_86 90 (by decide) ?_
          exact w_MO_shares_90 X hr hk9 ih _ _ _ _ _ _ _ _ _ hf
set_option maxRecDepth 10000 in
theorem w_MO_shares_5 {r : Int32} {σ' : Sg} (X : Cx Γ p (z_rm 0 0) s m args c c_MO_shares 6 "CaptionTalliesModel" 0 0) (hr : meth.sig.returnType = none) (hk9 : meth.locks = false) : ∀ (n9 : Nat) (x1 : Int32) (x2 : Int32) (x3 : Int32) (x4 : Int32) (σ : Sg), f_MO_shares_5 n9 x1 x2 x3 x4 σ = some (r, σ') → G Γ p l e (z_rm 0 0) s m args below meth c 0 0 (MQ below (Qx Γ none σ') args s 0 0 (fun q : Nat => Γ.2.2.2 ≤ q)) 6 5 [(0, .ref (Γ.2.2.1 112)), (1, .int x1), (2, .int x2), (3, .int x3), (4, .int x4)] [] σ := by
  intro n9
  induction n9 with
  | zero => intro x1 x2 x3 x4 σ hf; cases hf
  | succ n9 ih =>
    intro x1 x2 x3 x4 σ hf
    rw [f_MO_shares_5] at hf
    refine g_iload X d_MO_shares_5 4 rfl ?_
    refine g_aload_n X d_MO_shares_7 0 rfl ?_
    refine gf_112_0 X d_MO_shares_8 wl_MO_7 ?_
    refine g_iconst X d_MO_shares_11 (v := (nI 0)) rfl ?_
    obtain ⟨b1, hf⟩ := gd_some hf
    refine g_iald X d_MO_shares_12 kd_113 b1 ?_
    refine g_ic_ge X d_MO_shares_13 41 (by decide) (fun q2 => ?_) (fun q2 => ?_)
    · have hf := ite_t q2 hf
      refine g_iload_n X d_MO_shares_41 2 rfl ?_
      refine g_iload_n X d_MO_shares_42 3 rfl ?_
      obtain ⟨b3, hf⟩ := gd_some hf
      refine g_irem X d_MO_shares_43 (nz_of b3) ?_
      obtain ⟨v4, ev4, hf⟩ := lt_ex hf
      refine g_top ev4 ?_
      refine g_istore X d_MO_shares_44 (lv' := [(4, .int v4), (0, .ref (Γ.2.2.1 112)), (1, .int x1), (2, .int x2), (3, .int x3)]) (Nat.le_of_ble_eq_true rfl) rfl ?_
      refine g_iconst X d_MO_shares_46 (v := (nI 0)) rfl ?_
      refine g_istore X d_MO_shares_47 (lv' := [(5, .int (nI 0)), (4, .int v4), (0, .ref (Γ.2.2.1 112)), (1, .int x1), (2, .int x2), (3, .int x3)]) (Nat.le_of_ble_eq_true rfl) rfl ?_
      refine g_sub [2, 3, 4, 5, 1, 0] rfl ?_
      exact w_MO_shares_49 X hr hk9 _ _ _ _ _ _ _ hf
    · have hf := ite_f q2 hf
      refine g_iload_n X d_MO_shares_16 3 rfl ?_
      refine g_aload_n X d_MO_shares_17 0 rfl ?_
      refine gf_112_7 X d_MO_shares_18 wl_MO_22 ?_
      refine g_iload X d_MO_shares_21 4 rfl ?_
      obtain ⟨b5, hf⟩ := gd_some hf
      refine g_iald X d_MO_shares_23 kd_117 b5 ?_
      refine g_iload_n X d_MO_shares_24 1 rfl ?_
      refine g_ic_ne X d_MO_shares_25 32 (by decide) (fun q6 => ?_) (fun q6 => ?_)
      · have hf := ite_f q6 hf
        refine g_iconst X d_MO_shares_32 (v := (nI 0)) rfl ?_
        refine g_iadd X d_MO_shares_33 ?_
        obtain ⟨v7, ev7, hf⟩ := lt_ex hf
        refine g_top ev7 ?_
        refine g_istore_n X d_MO_shares_34 rfl (lv' := [(3, .int v7), (0, .ref (Γ.2.2.1 112)), (1, .int x1), (2, .int x2), (4, .int x4)]) (Nat.le_of_ble_eq_true rfl) rfl ?_
        refine g_iinc X d_MO_shares_35 (j := 4) (lv' := [(4, .int (x4 + (nI 1))), (3, .int v7), (0, .ref (Γ.2.2.1 112)), (1, .int x1), (2, .int x2)]) rfl rfl (Nat.le_of_ble_eq_true rfl) rfl ?_
        refine g_goto X d_MO_shares_38 5 (by decide) ?_
        refine g_sub [2, 3, 4, 1, 0] rfl ?_
        exact ih _ _ _ _ _ hf
      · have hf := ite_t q6 hf
        refine g_iconst X d_MO_shares_28 (v := (nI 1)) rfl ?_
        refine g_goto X d_MO_shares_29 33 (by decide) ?_
        refine g_iadd X d_MO_shares_33 ?_
        obtain ⟨v8, ev8, hf⟩ := lt_ex hf
        refine g_top ev8 ?_
        refine g_istore_n X d_MO_shares_34 rfl (lv' := [(3, .int v8), (0, .ref (Γ.2.2.1 112)), (1, .int x1), (2, .int x2), (4, .int x4)]) (Nat.le_of_ble_eq_true rfl) rfl ?_
        refine g_iinc X d_MO_shares_35 (j := 4) (lv' := [(4, .int (x4 + (nI 1))), (3, .int v8), (0, .ref (Γ.2.2.1 112)), (1, .int x1), (2, .int x2)]) rfl rfl (Nat.le_of_ble_eq_true rfl) rfl ?_
        refine g_goto X d_MO_shares_38 5 (by decide) ?_
        refine g_sub [2, 3, 4, 1, 0] rfl ?_
        exact ih _ _ _ _ _ hf
set_option maxRecDepth 10000 in
theorem c_MO_shares' {Γ : Gm} {l : Launch} {x1 : Int32} {x2 : Int32} {σ σ' : Sg} {r : Int32} (hf : f_MO_shares x1 x2 σ = some (r, σ')) : Ctr Γ l y_MO_shares c_MO_shares 6 none 0 0 [.ref (Γ.2.2.1 112), .int x1, .int x2] σ σ' none := by
  refine Ctr.of (lv := [(0, .ref (Γ.2.2.1 112)), (1, .int x1), (2, .int x2)]) (by decide +kernel) (Nat.le_of_ble_eq_true rfl) rfl ?_
  intro p e s m args below meth c X hr hk9
  have X : Cx Γ p (z_rm 0 0) s m args c c_MO_shares 6 "CaptionTalliesModel" 0 0 := X
  rw [f_MO_shares] at hf
  refine g_iconst X d_MO_shares_0 (v := (nI 0)) rfl ?_
  refine g_istore_n X d_MO_shares_1 rfl (lv' := [(3, .int (nI 0)), (0, .ref (Γ.2.2.1 112)), (1, .int x1), (2, .int x2)]) (Nat.le_of_ble_eq_true rfl) rfl ?_
  refine g_iconst X d_MO_shares_2 (v := (nI 0)) rfl ?_
  refine g_istore X d_MO_shares_3 (lv' := [(4, .int (nI 0)), (3, .int (nI 0)), (0, .ref (Γ.2.2.1 112)), (1, .int x1), (2, .int x2)]) (Nat.le_of_ble_eq_true rfl) rfl ?_
  refine g_sub [2, 3, 4, 1, 0] rfl ?_
  exact w_MO_shares_5 X hr hk9 _ _ _ _ _ _ hf
section
variable {R : Room} {kc ks : Nat} {Q : State → Prop} {nL : Nat} {cc : ByteArray} {own : String} {pc : Nat} {lv lv' : List (Nat × Value)} {st : List Value}
theorem ca_MO_shares {x1 : Int32} {x2 : Int32} (X : Cx Γ p R s m args c cc nL own kc ks) {idx : Nat} (hd : decode cc pc = .ok (.invokevirtual idx, 3)) (hlk : Cond.methodLink own idx y_MO_shares ∈ lw_gt) (hR : 0 + 1 ≤ R.frames ∧ 8 + (6 + 11) + 0 ≤ R.locals) (hw : (st.map fun v => v.category).sum ≤ 8) {σ σ' : Sg} {r : Int32} (hf : f_MO_shares x1 x2 σ = some (r, σ')) (k : G Γ p l e R s m args below meth c kc ks Q nL (pc + 3) lv (st) σ') : G Γ p l e R s m args below meth c kc ks Q nL pc lv (.int x2 :: .int x1 :: .ref (Γ.2.2.1 112) :: st) σ :=
  g_callV (As := [.int x1, .int x2]) (rest := st) X hd (c_MO_shares' hf) co_MO_shares hlk wn_MO_shares wse_MO_shares (by decide) kd_112 rfl hR rfl rfl hw k
end
set_option maxRecDepth 10000 in
theorem w_MO_works_132 {K100 : Int32 → Int32 → Int32 → Int32 → Sg → Option (Int32 × Sg)} {r : Int32} {σ' : Sg} (X : Cx Γ p (z_rm 5 111) s m args c c_MO_works 5 "CaptionTalliesModel" 0 0) (hr : meth.sig.returnType = none) (hk9 : meth.locks = false) (hK100 : ∀ (x1 : Int32) (x2 : Int32) (x3 : Int32) (x4 : Int32) (σ : Sg), K100 x1 x2 x3 x4 σ = some (r, σ') → G Γ p l e (z_rm 5 111) s m args below meth c 0 0 (MQ below (Qx Γ none σ') args s 0 0 (fun q : Nat => Γ.2.2.2 ≤ q)) 5 100 [(0, .ref (Γ.2.2.1 112)), (1, .int x1), (2, .int x2), (3, .int x3), (4, .int x4)] [] σ)  (x1 : Int32) (x2 : Int32) (x3 : Int32) (x4 : Int32) (t0 : Int32) (t1 : Int32) (t2 : Int32) (σ : Sg) (hf : f_MO_works_132 K100 x1 x2 x3 x4 t0 t1 t2 σ = some (r, σ')) : G Γ p l e (z_rm 5 111) s m args below meth c 0 0 (MQ below (Qx Γ none σ') args s 0 0 (fun q : Nat => Γ.2.2.2 ≤ q)) 5 132 [(0, .ref (Γ.2.2.1 112)), (1, .int x1), (2, .int x2), (3, .int x3), (4, .int x4)] [.int t0, .int t1, .int t2, .ref (Γ.2.2.1 112)] σ := by
  rw [f_MO_works_132] at hf
  refine g_iadd X d_MO_works_132 ?_
  obtain ⟨r1, σ2, er1, hf⟩ := bd_some hf
  refine ca_MO_shares X d_MO_works_133 wl_MO_142 ⟨Nat.le_of_ble_eq_true rfl, Nat.le_of_ble_eq_true rfl⟩ (sum8 rfl) er1 ?_
  refine g_iinc X d_MO_works_136 (j := 4) (lv' := [(4, .int (x4 + (nI 1))), (0, .ref (Γ.2.2.1 112)), (1, .int x1), (2, .int x2), (3, .int x3)]) rfl rfl (Nat.le_of_ble_eq_true rfl) rfl ?_
  refine g_goto X d_MO_works_139 100 (by decide) ?_
  refine g_sub [1, 2, 3, 4, 0] rfl ?_
  exact hK100 _ _ _ _ _ hf
set_option maxRecDepth 10000 in
theorem w_MO_works_100 {K14 : Int32 → Sg → Option (Int32 × Sg)} {r : Int32} {σ' : Sg} (X : Cx Γ p (z_rm 5 111) s m args c c_MO_works 5 "CaptionTalliesModel" 0 0) (hr : meth.sig.returnType = none) (hk9 : meth.locks = false) (hK14 : ∀ (x1 : Int32) (σ : Sg), K14 x1 σ = some (r, σ') → G Γ p l e (z_rm 5 111) s m args below meth c 0 0 (MQ below (Qx Γ none σ') args s 0 0 (fun q : Nat => Γ.2.2.2 ≤ q)) 5 14 [(0, .ref (Γ.2.2.1 112)), (1, .int x1)] [] σ) : ∀ (n9 : Nat) (x1 : Int32) (x2 : Int32) (x3 : Int32) (x4 : Int32) (σ : Sg), f_MO_works_100 K14 n9 x1 x2 x3 x4 σ = some (r, σ') → G Γ p l e (z_rm 5 111) s m args below meth c 0 0 (MQ below (Qx Γ none σ') args s 0 0 (fun q : Nat => Γ.2.2.2 ≤ q)) 5 100 [(0, .ref (Γ.2.2.1 112)), (1, .int x1), (2, .int x2), (3, .int x3), (4, .int x4)] [] σ := by
  intro n9
  induction n9 with
  | zero => intro x1 x2 x3 x4 σ hf; cases hf
  | succ n9 ih =>
    intro x1 x2 x3 x4 σ hf
    rw [f_MO_works_100] at hf
    refine g_iload X d_MO_works_100 4 rfl ?_
    refine g_iload_n X d_MO_works_102 2 rfl ?_
    refine g_ic_ge X d_MO_works_103 142 (by decide) (fun q1 => ?_) (fun q1 => ?_)
    · have hf := ite_t q1 hf
      refine g_iload_n X d_MO_works_142 1 rfl ?_
      refine g_iload_n X d_MO_works_143 2 rfl ?_
      refine g_iadd X d_MO_works_144 ?_
      obtain ⟨v2, ev2, hf⟩ := lt_ex hf
      refine g_top ev2 ?_
      refine g_istore_n X d_MO_works_145 rfl (lv' := [(1, .int v2), (0, .ref (Γ.2.2.1 112)), (2, .int x2), (3, .int x3), (4, .int x4)]) (Nat.le_of_ble_eq_true rfl) rfl ?_
      refine g_goto X d_MO_works_146 14 (by decide) ?_
      refine g_sub [1, 0] rfl ?_
      exact hK14 _ _ hf
    · have hf := ite_f q1 hf
      refine g_aload_n X d_MO_works_106 0 rfl ?_
      refine g_aload_n X d_MO_works_107 0 rfl ?_
      refine gf_112_16 X d_MO_works_108 wl_MO_49 ?_
      refine g_iload_n X d_MO_works_111 1 rfl ?_
      refine g_iload X d_MO_works_112 4 rfl ?_
      refine g_iadd X d_MO_works_114 ?_
      obtain ⟨b3, hf⟩ := gd_some hf
      refine g_iald X d_MO_works_115 kd_126 b3 ?_
      refine g_iload_n X d_MO_works_116 3 rfl ?_
      refine g_iload_n X d_MO_works_117 2 rfl ?_
      obtain ⟨b4, hf⟩ := gd_some hf
      refine g_idiv X d_MO_works_118 (nz_of b4) ?_
      refine g_iload X d_MO_works_119 4 rfl ?_
      refine g_iload_n X d_MO_works_121 3 rfl ?_
      refine g_iload_n X d_MO_works_122 2 rfl ?_
      obtain ⟨b5, hf⟩ := gd_some hf
      refine g_irem X d_MO_works_123 (nz_of b5) ?_
      refine g_ic_ge X d_MO_works_124 131 (by decide) (fun q6 => ?_) (fun q6 => ?_)
      · have hf := ite_t q6 hf
        refine g_iconst X d_MO_works_131 (v := (nI 0)) rfl ?_
        exact w_MO_works_132 X hr hk9 ih _ _ _ _ _ _ _ _ hf
      · have hf := ite_f q6 hf
        refine g_iconst X d_MO_works_127 (v := (nI 1)) rfl ?_
        refine g_goto X d_MO_works_128 132 (by decide) ?_
        exact w_MO_works_132 X hr hk9 ih _ _ _ _ _ _ _ _ hf
set_option maxRecDepth 10000 in
theorem w_MO_works_72 {K14 : Int32 → Sg → Option (Int32 × Sg)} {r : Int32} {σ' : Sg} (X : Cx Γ p (z_rm 5 111) s m args c c_MO_works 5 "CaptionTalliesModel" 0 0) (hr : meth.sig.returnType = none) (hk9 : meth.locks = false) (hK14 : ∀ (x1 : Int32) (σ : Sg), K14 x1 σ = some (r, σ') → G Γ p l e (z_rm 5 111) s m args below meth c 0 0 (MQ below (Qx Γ none σ') args s 0 0 (fun q : Nat => Γ.2.2.2 ≤ q)) 5 14 [(0, .ref (Γ.2.2.1 112)), (1, .int x1)] [] σ) : ∀ (n9 : Nat) (x1 : Int32) (x2 : Int32) (x3 : Int32) (x4 : Int32) (σ : Sg), f_MO_works_72 K14 n9 x1 x2 x3 x4 σ = some (r, σ') → G Γ p l e (z_rm 5 111) s m args below meth c 0 0 (MQ below (Qx Γ none σ') args s 0 0 (fun q : Nat => Γ.2.2.2 ≤ q)) 5 72 [(0, .ref (Γ.2.2.1 112)), (1, .int x1), (2, .int x2), (3, .int x3), (4, .int x4)] [] σ := by
  intro n9
  induction n9 with
  | zero => intro x1 x2 x3 x4 σ hf; cases hf
  | succ n9 ih =>
    intro x1 x2 x3 x4 σ hf
    rw [f_MO_works_72] at hf
    refine g_iload X d_MO_works_72 4 rfl ?_
    refine g_iload_n X d_MO_works_74 2 rfl ?_
    refine g_ic_ge X d_MO_works_75 97 (by decide) (fun q1 => ?_) (fun q1 => ?_)
    · have hf := ite_t q1 hf
      refine g_iconst X d_MO_works_97 (v := (nI 0)) rfl ?_
      refine g_istore X d_MO_works_98 (lv' := [(4, .int (nI 0)), (0, .ref (Γ.2.2.1 112)), (1, .int x1), (2, .int x2), (3, .int x3)]) (Nat.le_of_ble_eq_true rfl) rfl ?_
      refine g_sub [1, 2, 3, 4, 0] rfl ?_
      exact w_MO_works_100 X hr hk9 hK14 _ _ _ _ _ _ hf
    · have hf := ite_f q1 hf
      refine g_iload_n X d_MO_works_78 3 rfl ?_
      refine g_aload_n X d_MO_works_79 0 rfl ?_
      refine g_iload_n X d_MO_works_80 1 rfl ?_
      refine g_iload X d_MO_works_81 4 rfl ?_
      refine g_iadd X d_MO_works_83 ?_
      refine g_iconst X d_MO_works_84 (v := (nI 1)) rfl ?_
      refine g_iadd X d_MO_works_85 ?_
      obtain ⟨r2, σ3, er2, hf⟩ := bd_some hf
      refine ca_MO_prizeOf X d_MO_works_86 wl_MO_139 ⟨Nat.le_of_ble_eq_true rfl, Nat.le_of_ble_eq_true rfl⟩ (sum8 rfl) er2 ?_
      refine g_iadd X d_MO_works_89 ?_
      obtain ⟨v4, ev4, hf⟩ := lt_ex hf
      refine g_top ev4 ?_
      refine g_istore_n X d_MO_works_90 rfl (lv' := [(3, .int v4), (0, .ref (Γ.2.2.1 112)), (1, .int x1), (2, .int x2), (4, .int x4)]) (Nat.le_of_ble_eq_true rfl) rfl ?_
      refine g_iinc X d_MO_works_91 (j := 4) (lv' := [(4, .int (x4 + (nI 1))), (3, .int v4), (0, .ref (Γ.2.2.1 112)), (1, .int x1), (2, .int x2)]) rfl rfl (Nat.le_of_ble_eq_true rfl) rfl ?_
      refine g_goto X d_MO_works_94 72 (by decide) ?_
      refine g_sub [2, 3, 4, 1, 0] rfl ?_
      exact ih _ _ _ _ _ hf
set_option maxRecDepth 10000 in
theorem w_MO_works_67 {K14 : Int32 → Sg → Option (Int32 × Sg)} {r : Int32} {σ' : Sg} (X : Cx Γ p (z_rm 5 111) s m args c c_MO_works 5 "CaptionTalliesModel" 0 0) (hr : meth.sig.returnType = none) (hk9 : meth.locks = false) (hK14 : ∀ (x1 : Int32) (σ : Sg), K14 x1 σ = some (r, σ') → G Γ p l e (z_rm 5 111) s m args below meth c 0 0 (MQ below (Qx Γ none σ') args s 0 0 (fun q : Nat => Γ.2.2.2 ≤ q)) 5 14 [(0, .ref (Γ.2.2.1 112)), (1, .int x1)] [] σ)  (x1 : Int32) (x2 : Int32) (σ : Sg) (hf : f_MO_works_67 K14 x1 x2 σ = some (r, σ')) : G Γ p l e (z_rm 5 111) s m args below meth c 0 0 (MQ below (Qx Γ none σ') args s 0 0 (fun q : Nat => Γ.2.2.2 ≤ q)) 5 67 [(0, .ref (Γ.2.2.1 112)), (1, .int x1), (2, .int x2)] [] σ := by
  rw [f_MO_works_67] at hf
  refine g_iconst X d_MO_works_67 (v := (nI 0)) rfl ?_
  refine g_istore_n X d_MO_works_68 rfl (lv' := [(3, .int (nI 0)), (0, .ref (Γ.2.2.1 112)), (1, .int x1), (2, .int x2)]) (Nat.le_of_ble_eq_true rfl) rfl ?_
  refine g_iconst X d_MO_works_69 (v := (nI 0)) rfl ?_
  refine g_istore X d_MO_works_70 (lv' := [(4, .int (nI 0)), (3, .int (nI 0)), (0, .ref (Γ.2.2.1 112)), (1, .int x1), (2, .int x2)]) (Nat.le_of_ble_eq_true rfl) rfl ?_
  refine g_sub [2, 3, 4, 1, 0] rfl ?_
  exact w_MO_works_72 X hr hk9 hK14 _ _ _ _ _ _ hf
set_option maxRecDepth 10000 in
theorem w_MO_works_24 {K14 : Int32 → Sg → Option (Int32 × Sg)} {r : Int32} {σ' : Sg} (X : Cx Γ p (z_rm 5 111) s m args c c_MO_works 5 "CaptionTalliesModel" 0 0) (hr : meth.sig.returnType = none) (hk9 : meth.locks = false) (hK14 : ∀ (x1 : Int32) (σ : Sg), K14 x1 σ = some (r, σ') → G Γ p l e (z_rm 5 111) s m args below meth c 0 0 (MQ below (Qx Γ none σ') args s 0 0 (fun q : Nat => Γ.2.2.2 ≤ q)) 5 14 [(0, .ref (Γ.2.2.1 112)), (1, .int x1)] [] σ) : ∀ (n9 : Nat) (x1 : Int32) (x2 : Int32) (σ : Sg), f_MO_works_24 K14 n9 x1 x2 σ = some (r, σ') → G Γ p l e (z_rm 5 111) s m args below meth c 0 0 (MQ below (Qx Γ none σ') args s 0 0 (fun q : Nat => Γ.2.2.2 ≤ q)) 5 24 [(0, .ref (Γ.2.2.1 112)), (1, .int x1), (2, .int x2)] [] σ := by
  intro n9
  induction n9 with
  | zero => intro x1 x2 σ hf; cases hf
  | succ n9 ih =>
    intro x1 x2 σ hf
    rw [f_MO_works_24] at hf
    refine g_iload_n X d_MO_works_24 1 rfl ?_
    refine g_iload_n X d_MO_works_25 2 rfl ?_
    refine g_iadd X d_MO_works_26 ?_
    refine g_aload_n X d_MO_works_27 0 rfl ?_
    refine gf_112_23 X d_MO_works_28 wl_MO_93 ?_
    refine g_ic_ge X d_MO_works_31 67 (by decide) (fun q1 => ?_) (fun q1 => ?_)
    · have hf := ite_t q1 hf
      exact w_MO_works_67 X hr hk9 hK14 _ _ _ hf
    · have hf := ite_f q1 hf
      refine g_aload_n X d_MO_works_34 0 rfl ?_
      refine gf_112_15 X d_MO_works_35 wl_MO_46 ?_
      refine g_aload_n X d_MO_works_38 0 rfl ?_
      refine gf_112_16 X d_MO_works_39 wl_MO_49 ?_
      refine g_iload_n X d_MO_works_42 1 rfl ?_
      refine g_iload_n X d_MO_works_43 2 rfl ?_
      refine g_iadd X d_MO_works_44 ?_
      obtain ⟨b2, hf⟩ := gd_some hf
      refine g_iald X d_MO_works_45 kd_126 b2 ?_
      obtain ⟨b3, hf⟩ := gd_some hf
      refine g_iald X d_MO_works_46 kd_125 b3 ?_
      refine g_aload_n X d_MO_works_47 0 rfl ?_
      refine gf_112_15 X d_MO_works_48 wl_MO_46 ?_
      refine g_aload_n X d_MO_works_51 0 rfl ?_
      refine gf_112_16 X d_MO_works_52 wl_MO_49 ?_
      refine g_iload_n X d_MO_works_55 1 rfl ?_
      obtain ⟨b4, hf⟩ := gd_some hf
      refine g_iald X d_MO_works_56 kd_126 b4 ?_
      obtain ⟨b5, hf⟩ := gd_some hf
      refine g_iald X d_MO_works_57 kd_125 b5 ?_
      refine g_ic_ne X d_MO_works_58 67 (by decide) (fun q6 => ?_) (fun q6 => ?_)
      · have hf := ite_f q6 hf
        exact w_MO_works_67 X hr hk9 hK14 _ _ _ hf
      · have hf := ite_t q6 hf
        refine g_iinc X d_MO_works_61 (j := 2) (lv' := [(2, .int (x2 + (nI 1))), (0, .ref (Γ.2.2.1 112)), (1, .int x1)]) rfl rfl (Nat.le_of_ble_eq_true rfl) rfl ?_
        refine g_goto X d_MO_works_64 24 (by decide) ?_
        refine g_sub [1, 2, 0] rfl ?_
        exact ih _ _ _ hf
set_option maxRecDepth 10000 in
theorem w_MO_works_14 {r : Int32} {σ' : Sg} (X : Cx Γ p (z_rm 5 111) s m args c c_MO_works 5 "CaptionTalliesModel" 0 0) (hr : meth.sig.returnType = none) (hk9 : meth.locks = false) : ∀ (n9 : Nat) (x1 : Int32) (σ : Sg), f_MO_works_14 n9 x1 σ = some (r, σ') → G Γ p l e (z_rm 5 111) s m args below meth c 0 0 (MQ below (Qx Γ none σ') args s 0 0 (fun q : Nat => Γ.2.2.2 ≤ q)) 5 14 [(0, .ref (Γ.2.2.1 112)), (1, .int x1)] [] σ := by
  intro n9
  induction n9 with
  | zero => intro x1 σ hf; cases hf
  | succ n9 ih =>
    intro x1 σ hf
    rw [f_MO_works_14] at hf
    refine g_iload_n X d_MO_works_14 1 rfl ?_
    refine g_aload_n X d_MO_works_15 0 rfl ?_
    refine gf_112_23 X d_MO_works_16 wl_MO_93 ?_
    refine g_ic_ge X d_MO_works_19 149 (by decide) (fun q1 => ?_) (fun q1 => ?_)
    · have hf := ite_t q1 hf
      exact g_vret X d_MO_works_149 hr hk9 hf
    · have hf := ite_f q1 hf
      refine g_iconst X d_MO_works_22 (v := (nI 1)) rfl ?_
      refine g_istore_n X d_MO_works_23 rfl (lv' := [(2, .int (nI 1)), (0, .ref (Γ.2.2.1 112)), (1, .int x1)]) (Nat.le_of_ble_eq_true rfl) rfl ?_
      refine g_sub [1, 2, 0] rfl ?_
      exact w_MO_works_24 X hr hk9 ih _ _ _ _ hf
set_option maxRecDepth 10000 in
theorem c_MO_works' {Γ : Gm} {l : Launch} {σ σ' : Sg} {r : Int32} (hf : f_MO_works σ = some (r, σ')) : Ctr Γ l y_MO_works c_MO_works 5 none 5 111 [.ref (Γ.2.2.1 112)] σ σ' none := by
  refine Ctr.of (lv := [(0, .ref (Γ.2.2.1 112))]) (by decide +kernel) (Nat.le_of_ble_eq_true rfl) rfl ?_
  intro p e s m args below meth c X hr hk9
  have X : Cx Γ p (z_rm 5 111) s m args c c_MO_works 5 "CaptionTalliesModel" 0 0 := X
  rw [f_MO_works] at hf
  refine g_aload_n X d_MO_works_0 0 rfl ?_
  obtain ⟨r1, σ2, er1, hf⟩ := bd_some hf
  refine ca_MO_tallies X d_MO_works_1 wl_MO_130 ⟨Nat.le_of_ble_eq_true rfl, Nat.le_of_ble_eq_true rfl⟩ (sum8 rfl) er1 ?_
  refine g_aload_n X d_MO_works_4 0 rfl ?_
  obtain ⟨r3, σ4, er3, hf⟩ := bd_some hf
  refine ca_MO_goesRounds X d_MO_works_5 wl_MO_133 ⟨Nat.le_of_ble_eq_true rfl, Nat.le_of_ble_eq_true rfl⟩ (sum8 rfl) er3 ?_
  refine g_aload_n X d_MO_works_8 0 rfl ?_
  obtain ⟨r5, σ6, er5, hf⟩ := bd_some hf
  refine ca_MO_orders X d_MO_works_9 wl_MO_136 ⟨Nat.le_of_ble_eq_true rfl, Nat.le_of_ble_eq_true rfl⟩ (sum8 rfl) er5 ?_
  refine g_iconst X d_MO_works_12 (v := (nI 0)) rfl ?_
  refine g_istore_n X d_MO_works_13 rfl (lv' := [(1, .int (nI 0)), (0, .ref (Γ.2.2.1 112))]) (Nat.le_of_ble_eq_true rfl) rfl ?_
  refine g_sub [1, 0] rfl ?_
  exact w_MO_works_14 X hr hk9 _ _ _ hf
section
variable {R : Room} {kc ks : Nat} {Q : State → Prop} {nL : Nat} {cc : ByteArray} {own : String} {pc : Nat} {lv lv' : List (Nat × Value)} {st : List Value}
theorem ca_MO_works (X : Cx Γ p R s m args c cc nL own kc ks) {idx : Nat} (hd : decode cc pc = .ok (.invokevirtual idx, 3)) (hlk : Cond.methodLink own idx y_MO_works ∈ lw_gt) (hR : 5 + 1 ≤ R.frames ∧ 8 + (5 + 11) + 111 ≤ R.locals) (hw : (st.map fun v => v.category).sum ≤ 8) {σ σ' : Sg} {r : Int32} (hf : f_MO_works σ = some (r, σ')) (k : G Γ p l e R s m args below meth c kc ks Q nL (pc + 3) lv (st) σ') : G Γ p l e R s m args below meth c kc ks Q nL pc lv (.ref (Γ.2.2.1 112) :: st) σ :=
  g_callV (As := []) (rest := st) X hd (c_MO_works' hf) co_MO_works hlk wn_MO_works wse_MO_works (by decide) kd_112 rfl hR rfl rfl hw k
end
set_option maxRecDepth 10000 in
theorem w_MO_getsGroup_4 {r : Int32} {σ' : Sg} (X : Cx Γ p (z_rm 0 0) s m args c c_MO_getsGroup 4 "CaptionTalliesModel" 0 0) (hr : meth.sig.returnType = (some .int)) (hk9 : meth.locks = false) : ∀ (n9 : Nat) (x1 : Int32) (x2 : Int32) (x3 : Int32) (σ : Sg), f_MO_getsGroup_4 n9 x1 x2 x3 σ = some (r, σ') → G Γ p l e (z_rm 0 0) s m args below meth c 0 0 (MQ below (Qx Γ (some (.int r)) σ') args s 0 0 (fun q : Nat => Γ.2.2.2 ≤ q)) 4 4 [(0, .ref (Γ.2.2.1 112)), (1, .int x1), (2, .int x2), (3, .int x3)] [] σ := by
  intro n9
  induction n9 with
  | zero => intro x1 x2 x3 σ hf; cases hf
  | succ n9 ih =>
    intro x1 x2 x3 σ hf
    rw [f_MO_getsGroup_4] at hf
    refine g_iload_n X d_MO_getsGroup_4 3 rfl ?_
    refine g_aload_n X d_MO_getsGroup_5 0 rfl ?_
    refine gf_112_0 X d_MO_getsGroup_6 wl_MO_7 ?_
    refine g_iconst X d_MO_getsGroup_9 (v := (nI 0)) rfl ?_
    obtain ⟨b1, hf⟩ := gd_some hf
    refine g_iald X d_MO_getsGroup_10 kd_113 b1 ?_
    refine g_ic_ge X d_MO_getsGroup_11 43 (by decide) (fun q2 => ?_) (fun q2 => ?_)
    · have hf := ite_t q2 hf
      refine g_iload_n X d_MO_getsGroup_43 2 rfl ?_
      exact g_iret X d_MO_getsGroup_44 hr hk9 hf
    · have hf := ite_f q2 hf
      refine g_iload_n X d_MO_getsGroup_14 2 rfl ?_
      refine g_aload_n X d_MO_getsGroup_15 0 rfl ?_
      refine gf_112_7 X d_MO_getsGroup_16 wl_MO_22 ?_
      refine g_iload_n X d_MO_getsGroup_19 3 rfl ?_
      obtain ⟨b3, hf⟩ := gd_some hf
      refine g_iald X d_MO_getsGroup_20 kd_117 b3 ?_
      refine g_iload_n X d_MO_getsGroup_21 1 rfl ?_
      refine g_ic_ne X d_MO_getsGroup_22 34 (by decide) (fun q4 => ?_) (fun q4 => ?_)
      · have hf := ite_f q4 hf
        refine g_iconst X d_MO_getsGroup_34 (v := (nI 0)) rfl ?_
        refine g_iadd X d_MO_getsGroup_35 ?_
        obtain ⟨v5, ev5, hf⟩ := lt_ex hf
        refine g_top ev5 ?_
        refine g_istore_n X d_MO_getsGroup_36 rfl (lv' := [(2, .int v5), (0, .ref (Γ.2.2.1 112)), (1, .int x1), (3, .int x3)]) (Nat.le_of_ble_eq_true rfl) rfl ?_
        refine g_iinc X d_MO_getsGroup_37 (j := 3) (lv' := [(3, .int (x3 + (nI 1))), (2, .int v5), (0, .ref (Γ.2.2.1 112)), (1, .int x1)]) rfl rfl (Nat.le_of_ble_eq_true rfl) rfl ?_
        refine g_goto X d_MO_getsGroup_40 4 (by decide) ?_
        refine g_sub [2, 3, 1, 0] rfl ?_
        exact ih _ _ _ _ hf
      · have hf := ite_t q4 hf
        refine g_aload_n X d_MO_getsGroup_25 0 rfl ?_
        refine gf_112_17 X d_MO_getsGroup_26 wl_MO_52 ?_
        refine g_iload_n X d_MO_getsGroup_29 3 rfl ?_
        obtain ⟨b6, hf⟩ := gd_some hf
        refine g_iald X d_MO_getsGroup_30 kd_127 b6 ?_
        refine g_goto X d_MO_getsGroup_31 35 (by decide) ?_
        refine g_iadd X d_MO_getsGroup_35 ?_
        obtain ⟨v7, ev7, hf⟩ := lt_ex hf
        refine g_top ev7 ?_
        refine g_istore_n X d_MO_getsGroup_36 rfl (lv' := [(2, .int v7), (0, .ref (Γ.2.2.1 112)), (1, .int x1), (3, .int x3)]) (Nat.le_of_ble_eq_true rfl) rfl ?_
        refine g_iinc X d_MO_getsGroup_37 (j := 3) (lv' := [(3, .int (x3 + (nI 1))), (2, .int v7), (0, .ref (Γ.2.2.1 112)), (1, .int x1)]) rfl rfl (Nat.le_of_ble_eq_true rfl) rfl ?_
        refine g_goto X d_MO_getsGroup_40 4 (by decide) ?_
        refine g_sub [2, 3, 1, 0] rfl ?_
        exact ih _ _ _ _ hf
set_option maxRecDepth 10000 in
theorem c_MO_getsGroup' {Γ : Gm} {l : Launch} {x1 : Int32} {σ σ' : Sg} {r : Int32} (hf : f_MO_getsGroup x1 σ = some (r, σ')) : Ctr Γ l y_MO_getsGroup c_MO_getsGroup 4 (some .int) 0 0 [.ref (Γ.2.2.1 112), .int x1] σ σ' (some (.int r)) := by
  refine Ctr.of (lv := [(0, .ref (Γ.2.2.1 112)), (1, .int x1)]) (by decide +kernel) (Nat.le_of_ble_eq_true rfl) rfl ?_
  intro p e s m args below meth c X hr hk9
  have X : Cx Γ p (z_rm 0 0) s m args c c_MO_getsGroup 4 "CaptionTalliesModel" 0 0 := X
  rw [f_MO_getsGroup] at hf
  refine g_iconst X d_MO_getsGroup_0 (v := (nI 0)) rfl ?_
  refine g_istore_n X d_MO_getsGroup_1 rfl (lv' := [(2, .int (nI 0)), (0, .ref (Γ.2.2.1 112)), (1, .int x1)]) (Nat.le_of_ble_eq_true rfl) rfl ?_
  refine g_iconst X d_MO_getsGroup_2 (v := (nI 0)) rfl ?_
  refine g_istore_n X d_MO_getsGroup_3 rfl (lv' := [(3, .int (nI 0)), (2, .int (nI 0)), (0, .ref (Γ.2.2.1 112)), (1, .int x1)]) (Nat.le_of_ble_eq_true rfl) rfl ?_
  refine g_sub [2, 3, 1, 0] rfl ?_
  exact w_MO_getsGroup_4 X hr hk9 _ _ _ _ _ hf
section
variable {R : Room} {kc ks : Nat} {Q : State → Prop} {nL : Nat} {cc : ByteArray} {own : String} {pc : Nat} {lv lv' : List (Nat × Value)} {st : List Value}
theorem ca_MO_getsGroup {x1 : Int32} (X : Cx Γ p R s m args c cc nL own kc ks) {idx : Nat} (hd : decode cc pc = .ok (.invokevirtual idx, 3)) (hlk : Cond.methodLink own idx y_MO_getsGroup ∈ lw_gt) (hR : 0 + 1 ≤ R.frames ∧ 8 + (4 + 11) + 0 ≤ R.locals) (hw : (st.map fun v => v.category).sum ≤ 8) {σ σ' : Sg} {r : Int32} (hf : f_MO_getsGroup x1 σ = some (r, σ')) (k : G Γ p l e R s m args below meth c kc ks Q nL (pc + 3) lv (.int r :: st) σ') : G Γ p l e R s m args below meth c kc ks Q nL pc lv (.int x1 :: .ref (Γ.2.2.1 112) :: st) σ :=
  g_callV (As := [.int x1]) (rest := st) X hd (c_MO_getsGroup' hf) co_MO_getsGroup hlk wn_MO_getsGroup wse_MO_getsGroup (by decide) kd_112 rfl hR rfl rfl hw k
end
set_option maxRecDepth 10000 in
theorem w_MO_fault_4 {r : Int32} {σ' : Sg} (X : Cx Γ p (z_rm 3 62) s m args c c_MO_fault 3 "CaptionTalliesModel" 0 0) (hr : meth.sig.returnType = (some .int)) (hk9 : meth.locks = false) : ∀ (n9 : Nat) (x1 : Int32) (x2 : Int32) (σ : Sg), f_MO_fault_4 n9 x1 x2 σ = some (r, σ') → G Γ p l e (z_rm 3 62) s m args below meth c 0 0 (MQ below (Qx Γ (some (.int r)) σ') args s 0 0 (fun q : Nat => Γ.2.2.2 ≤ q)) 3 4 [(0, .ref (Γ.2.2.1 112)), (1, .int x1), (2, .int x2)] [] σ := by
  intro n9
  induction n9 with
  | zero => intro x1 x2 σ hf; cases hf
  | succ n9 ih =>
    intro x1 x2 σ hf
    rw [f_MO_fault_4] at hf
    refine g_iload_n X d_MO_fault_4 2 rfl ?_
    refine g_aload_n X d_MO_fault_5 0 rfl ?_
    refine gf_112_5 X d_MO_fault_6 wl_MO_146 ?_
    refine g_ic_ge X d_MO_fault_9 44 (by decide) (fun q1 => ?_) (fun q1 => ?_)
    · have hf := ite_t q1 hf
      refine g_iload_n X d_MO_fault_44 1 rfl ?_
      refine g_if_eq X d_MO_fault_45 52 (by decide) (fun q2 => ?_) (fun q2 => ?_)
      · have hf := ite_t q2 hf
        refine g_aload_n X d_MO_fault_52 0 rfl ?_
        refine gf_112_5 X d_MO_fault_53 wl_MO_146 ?_
        exact g_iret X d_MO_fault_56 hr hk9 hf
      · have hf := ite_f q2 hf
        refine g_iconst X d_MO_fault_48 (v := (-1)) rfl ?_
        refine g_goto X d_MO_fault_49 56 (by decide) ?_
        exact g_iret X d_MO_fault_56 hr hk9 hf
    · have hf := ite_f q1 hf
      refine g_aload_n X d_MO_fault_12 0 rfl ?_
      refine gf_112_3 X d_MO_fault_13 wl_MO_19 ?_
      refine g_iload_n X d_MO_fault_16 2 rfl ?_
      obtain ⟨b3, hf⟩ := gd_some hf
      refine g_iald X d_MO_fault_17 kd_116 b3 ?_
      obtain ⟨r4, σ5, er4, hf⟩ := bd_some hf
      refine ca_MO_isSign X d_MO_fault_18 wl_MO_149 ⟨Nat.le_of_ble_eq_true rfl, Nat.le_of_ble_eq_true rfl⟩ (sum8 rfl) er4 ?_
      refine g_if_ne X d_MO_fault_21 26 (by decide) (fun q6 => ?_) (fun q6 => ?_)
      · have hf := ite_f q6 hf
        refine g_iload_n X d_MO_fault_26 1 rfl ?_
        refine g_aload_n X d_MO_fault_27 0 rfl ?_
        refine gf_112_3 X d_MO_fault_28 wl_MO_19 ?_
        refine g_iload_n X d_MO_fault_31 2 rfl ?_
        obtain ⟨b7, hf⟩ := gd_some hf
        refine g_iald X d_MO_fault_32 kd_116 b7 ?_
        obtain ⟨r8, σ9, er8, hf⟩ := bd_some hf
        refine ca_MO_isLetter X d_MO_fault_33 wl_MO_78 ⟨Nat.le_of_ble_eq_true rfl, Nat.le_of_ble_eq_true rfl⟩ (sum8 rfl) er8 ?_
        refine g_ior X d_MO_fault_36 ?_
        obtain ⟨v10, ev10, hf⟩ := lt_ex hf
        refine g_top ev10 ?_
        refine g_istore_n X d_MO_fault_37 rfl (lv' := [(1, .int v10), (0, .ref (Γ.2.2.1 112)), (2, .int x2)]) (Nat.le_of_ble_eq_true rfl) rfl ?_
        refine g_iinc X d_MO_fault_38 (j := 2) (lv' := [(2, .int (x2 + (nI 1))), (1, .int v10), (0, .ref (Γ.2.2.1 112))]) rfl rfl (Nat.le_of_ble_eq_true rfl) rfl ?_
        refine g_goto X d_MO_fault_41 4 (by decide) ?_
        refine g_sub [2, 1, 0] rfl ?_
        exact ih _ _ _ hf
      · have hf := ite_t q6 hf
        refine g_iload_n X d_MO_fault_24 2 rfl ?_
        exact g_iret X d_MO_fault_25 hr hk9 hf
set_option maxRecDepth 10000 in
theorem c_MO_fault' {Γ : Gm} {l : Launch} {σ σ' : Sg} {r : Int32} (hf : f_MO_fault σ = some (r, σ')) : Ctr Γ l y_MO_fault c_MO_fault 3 (some .int) 3 62 [.ref (Γ.2.2.1 112)] σ σ' (some (.int r)) := by
  refine Ctr.of (lv := [(0, .ref (Γ.2.2.1 112))]) (by decide +kernel) (Nat.le_of_ble_eq_true rfl) rfl ?_
  intro p e s m args below meth c X hr hk9
  have X : Cx Γ p (z_rm 3 62) s m args c c_MO_fault 3 "CaptionTalliesModel" 0 0 := X
  rw [f_MO_fault] at hf
  refine g_iconst X d_MO_fault_0 (v := (nI 0)) rfl ?_
  refine g_istore_n X d_MO_fault_1 rfl (lv' := [(1, .int (nI 0)), (0, .ref (Γ.2.2.1 112))]) (Nat.le_of_ble_eq_true rfl) rfl ?_
  refine g_iconst X d_MO_fault_2 (v := (nI 0)) rfl ?_
  refine g_istore_n X d_MO_fault_3 rfl (lv' := [(2, .int (nI 0)), (1, .int (nI 0)), (0, .ref (Γ.2.2.1 112))]) (Nat.le_of_ble_eq_true rfl) rfl ?_
  refine g_sub [2, 1, 0] rfl ?_
  exact w_MO_fault_4 X hr hk9 _ _ _ _ hf
section
variable {R : Room} {kc ks : Nat} {Q : State → Prop} {nL : Nat} {cc : ByteArray} {own : String} {pc : Nat} {lv lv' : List (Nat × Value)} {st : List Value}
theorem ca_MO_fault (X : Cx Γ p R s m args c cc nL own kc ks) {idx : Nat} (hd : decode cc pc = .ok (.invokevirtual idx, 3)) (hlk : Cond.methodLink own idx y_MO_fault ∈ lw_gt) (hR : 3 + 1 ≤ R.frames ∧ 8 + (3 + 11) + 62 ≤ R.locals) (hw : (st.map fun v => v.category).sum ≤ 8) {σ σ' : Sg} {r : Int32} (hf : f_MO_fault σ = some (r, σ')) (k : G Γ p l e R s m args below meth c kc ks Q nL (pc + 3) lv (.int r :: st) σ') : G Γ p l e R s m args below meth c kc ks Q nL pc lv (.ref (Γ.2.2.1 112) :: st) σ :=
  g_callV (As := []) (rest := st) X hd (c_MO_fault' hf) co_MO_fault hlk wn_MO_fault wse_MO_fault (by decide) kd_112 rfl hR rfl rfl hw k
end
set_option maxRecDepth 10000 in
theorem w_MO_submit_91 {r : Int32} {σ' : Sg} (X : Cx Γ p (z_rm 4 84) s m args c c_MO_submit 5 "CaptionTalliesModel" 0 0) (hr : meth.sig.returnType = (some .int)) (hk9 : meth.locks = false) : ∀ (n9 : Nat) (x3 : Int32) (x4 : Int32) (σ : Sg), f_MO_submit_91 n9 x3 x4 σ = some (r, σ') → G Γ p l e (z_rm 4 84) s m args below meth c 0 0 (MQ below (Qx Γ (some (.int r)) σ') args s 0 0 (fun q : Nat => Γ.2.2.2 ≤ q)) 5 91 [(0, .ref (Γ.2.2.1 112)), (3, .int x3), (4, .int x4)] [] σ := by
  intro n9
  induction n9 with
  | zero => intro x3 x4 σ hf; cases hf
  | succ n9 ih =>
    intro x3 x4 σ hf
    rw [f_MO_submit_91] at hf
    refine g_iload X d_MO_submit_91 2 rfl ?_
    refine g_aload_n X d_MO_submit_93 0 rfl ?_
    refine gf_112_5 X d_MO_submit_94 wl_MO_146 ?_
    refine g_ic_ge X d_MO_submit_97 128 (by decide) (fun q1 => ?_) (fun q1 => ?_)
    · have hf := ite_t q1 hf
      refine g_iload_n X d_MO_submit_128 1 rfl ?_
      exact g_iret X d_MO_submit_129 hr hk9 hf
    · have hf := ite_f q1 hf
      refine g_aload_n X d_MO_submit_100 0 rfl ?_
      refine gf_112_0 X d_MO_submit_101 wl_MO_7 ?_
      refine g_bipush X d_MO_submit_104 (v := (nI 89)) rfl ?_
      refine g_bipush X d_MO_submit_106 (v := (nI 60)) rfl ?_
      refine g_iload_n X d_MO_submit_108 1 rfl ?_
      refine g_imul X d_MO_submit_109 ?_
      refine g_iadd X d_MO_submit_110 ?_
      refine g_iload X d_MO_submit_111 2 rfl ?_
      refine g_iadd X d_MO_submit_113 ?_
      refine g_aload_n X d_MO_submit_114 0 rfl ?_
      refine gf_112_3 X d_MO_submit_115 wl_MO_19 ?_
      refine g_iload X d_MO_submit_118 2 rfl ?_
      obtain ⟨b2, hf⟩ := gd_some hf
      refine g_iald X d_MO_submit_120 kd_116 b2 ?_
      obtain ⟨b3, hf⟩ := gd_some hf
      obtain ⟨σ4, eσ4, hf⟩ := lt_ex hf
      refine g_iast X d_MO_submit_121 kd_113 b3 eσ4 ?_
      refine g_iinc X d_MO_submit_122 (j := 2) (lv' := [(4, .int (x4 + (nI 1))), (0, .ref (Γ.2.2.1 112)), (3, .int x3)]) rfl rfl (Nat.le_of_ble_eq_true rfl) rfl ?_
      refine g_goto X d_MO_submit_125 91 (by decide) ?_
      refine g_sub [1, 2, 0] rfl ?_
      exact ih _ _ _ hf
set_option maxRecDepth 10000 in
theorem c_MO_submit' {Γ : Gm} {l : Launch} {x1 : Int32} {σ σ' : Sg} {r : Int32} (hf : f_MO_submit x1 σ = some (r, σ')) : Ctr Γ l y_MO_submit c_MO_submit 5 (some .int) 4 84 [.ref (Γ.2.2.1 112), .int x1] σ σ' (some (.int r)) := by
  refine Ctr.of (lv := [(0, .ref (Γ.2.2.1 112)), (1, .int x1)]) (by decide +kernel) (Nat.le_of_ble_eq_true rfl) rfl ?_
  intro p e s m args below meth c X hr hk9
  have X : Cx Γ p (z_rm 4 84) s m args c c_MO_submit 5 "CaptionTalliesModel" 0 0 := X
  rw [f_MO_submit] at hf
  refine g_iload_n X d_MO_submit_0 1 rfl ?_
  refine g_iconst X d_MO_submit_1 (v := (nI 0)) rfl ?_
  refine g_bipush X d_MO_submit_2 (v := (nI 9)) rfl ?_
  obtain ⟨r1, σ2, er1, hf⟩ := bd_some hf
  refine ca_MO_in X d_MO_submit_4 wl_MO_74 ⟨Nat.le_of_ble_eq_true rfl, Nat.le_of_ble_eq_true rfl⟩ (sum8 rfl) er1 ?_
  refine g_if_ne X d_MO_submit_7 12 (by decide) (fun q3 => ?_) (fun q3 => ?_)
  · have hf := ite_f q3 hf
    refine g_aload_n X d_MO_submit_12 0 rfl ?_
    obtain ⟨r4, σ5, er4, hf⟩ := bd_some hf
    refine ca_MO_fault X d_MO_submit_13 wl_MO_152 ⟨Nat.le_of_ble_eq_true rfl, Nat.le_of_ble_eq_true rfl⟩ (sum8 rfl) er4 ?_
    refine g_istore_n X d_MO_submit_16 rfl (lv' := [(2, .int r4), (0, .ref (Γ.2.2.1 112)), (1, .int x1)]) (Nat.le_of_ble_eq_true rfl) rfl ?_
    refine g_iload_n X d_MO_submit_17 0 rfl ?_
    refine g_if_lt X d_MO_submit_18 26 (by decide) (fun q6 => ?_) (fun q6 => ?_)
    · have hf := ite_t q6 hf
      refine g_aload_n X d_MO_submit_26 1 rfl ?_
      refine gf_112_0 X d_MO_submit_27 wl_MO_7 ?_
      refine g_iconst X d_MO_submit_30 (v := (nI 0)) rfl ?_
      obtain ⟨b7, hf⟩ := gd_some hf
      refine g_iald X d_MO_submit_31 kd_113 b7 ?_
      obtain ⟨v8, ev8, hf⟩ := lt_ex hf
      refine g_top ev8 ?_
      refine g_istore_n X d_MO_submit_32 rfl (lv' := [(3, .int v8), (2, .int r4), (0, .ref (Γ.2.2.1 112)), (1, .int x1)]) (Nat.le_of_ble_eq_true rfl) rfl ?_
      refine g_iload_n X d_MO_submit_33 0 rfl ?_
      refine g_bipush X d_MO_submit_34 (v := (nI 20)) rfl ?_
      refine g_ic_ne X d_MO_submit_36 42 (by decide) (fun q9 => ?_) (fun q9 => ?_)
      · have hf := ite_f q9 hf
        refine g_aload_n X d_MO_submit_42 2 rfl ?_
        obtain ⟨r10, σ11, er10, hf⟩ := bd_some hf
        refine ca_MO_record X d_MO_submit_43 wl_MO_156 ⟨Nat.le_of_ble_eq_true rfl, Nat.le_of_ble_eq_true rfl⟩ (sum8 rfl) er10 ?_
        refine g_aload_n X d_MO_submit_46 2 rfl ?_
        refine gf_112_0 X d_MO_submit_47 wl_MO_7 ?_
        refine g_iconst X d_MO_submit_50 (v := (nI 0)) rfl ?_
        refine g_iload_n X d_MO_submit_51 0 rfl ?_
        refine g_iconst X d_MO_submit_52 (v := (nI 1)) rfl ?_
        refine g_iadd X d_MO_submit_53 ?_
        obtain ⟨b12, hf⟩ := gd_some hf
        obtain ⟨σ13, eσ13, hf⟩ := lt_ex hf
        refine g_iast X d_MO_submit_54 kd_113 b12 eσ13 ?_
        refine g_aload_n X d_MO_submit_55 2 rfl ?_
        refine gf_112_0 X d_MO_submit_56 wl_MO_7 ?_
        refine g_bipush X d_MO_submit_59 (v := (nI 9)) rfl ?_
        refine g_iload_n X d_MO_submit_61 0 rfl ?_
        refine g_iadd X d_MO_submit_62 ?_
        refine g_iload_n X d_MO_submit_63 3 rfl ?_
        obtain ⟨b14, hf⟩ := gd_some hf
        obtain ⟨σ15, eσ15, hf⟩ := lt_ex hf
        refine g_iast X d_MO_submit_64 kd_113 b14 eσ15 ?_
        refine g_aload_n X d_MO_submit_65 2 rfl ?_
        refine gf_112_0 X d_MO_submit_66 wl_MO_7 ?_
        refine g_bipush X d_MO_submit_69 (v := (nI 29)) rfl ?_
        refine g_iload_n X d_MO_submit_71 0 rfl ?_
        refine g_iadd X d_MO_submit_72 ?_
        refine g_iconst X d_MO_submit_73 (v := (nI 1)) rfl ?_
        obtain ⟨b16, hf⟩ := gd_some hf
        obtain ⟨σ17, eσ17, hf⟩ := lt_ex hf
        refine g_iast X d_MO_submit_74 kd_113 b16 eσ17 ?_
        refine g_aload_n X d_MO_submit_75 2 rfl ?_
        refine gf_112_0 X d_MO_submit_76 wl_MO_7 ?_
        refine g_bipush X d_MO_submit_79 (v := (nI 69)) rfl ?_
        refine g_iload_n X d_MO_submit_81 0 rfl ?_
        refine g_iadd X d_MO_submit_82 ?_
        refine g_aload_n X d_MO_submit_83 2 rfl ?_
        refine gf_112_5 X d_MO_submit_84 wl_MO_146 ?_
        obtain ⟨b18, hf⟩ := gd_some hf
        obtain ⟨σ19, eσ19, hf⟩ := lt_ex hf
        refine g_iast X d_MO_submit_87 kd_113 b18 eσ19 ?_
        refine g_iconst X d_MO_submit_88 (v := (nI 0)) rfl ?_
        refine g_istore X d_MO_submit_89 (lv' := [(4, .int (nI 0)), (3, .int v8), (2, .int r4), (0, .ref (Γ.2.2.1 112)), (1, .int x1)]) (Nat.le_of_ble_eq_true rfl) rfl ?_
        refine g_sub [3, 1, 0] rfl ?_
        exact w_MO_submit_91 X hr hk9 _ _ _ _ hf
      · have hf := ite_t q9 hf
        refine g_bipush X d_MO_submit_39 (v := (-3)) rfl ?_
        exact g_iret X d_MO_submit_41 hr hk9 hf
    · have hf := ite_f q6 hf
      refine g_bipush X d_MO_submit_21 (v := (-100)) rfl ?_
      refine g_iload_n X d_MO_submit_23 0 rfl ?_
      refine g_isub X d_MO_submit_24 ?_
      exact g_iret X d_MO_submit_25 hr hk9 hf
  · have hf := ite_t q3 hf
    refine g_iconst X d_MO_submit_10 (v := (-1)) rfl ?_
    exact g_iret X d_MO_submit_11 hr hk9 hf
section
variable {R : Room} {kc ks : Nat} {Q : State → Prop} {nL : Nat} {cc : ByteArray} {own : String} {pc : Nat} {lv lv' : List (Nat × Value)} {st : List Value}
theorem ca_MO_submit {x1 : Int32} (X : Cx Γ p R s m args c cc nL own kc ks) {idx : Nat} (hd : decode cc pc = .ok (.invokevirtual idx, 3)) (hlk : Cond.methodLink own idx y_MO_submit ∈ lw_gt) (hR : 4 + 1 ≤ R.frames ∧ 8 + (5 + 11) + 84 ≤ R.locals) (hw : (st.map fun v => v.category).sum ≤ 8) {σ σ' : Sg} {r : Int32} (hf : f_MO_submit x1 σ = some (r, σ')) (k : G Γ p l e R s m args below meth c kc ks Q nL (pc + 3) lv (.int r :: st) σ') : G Γ p l e R s m args below meth c kc ks Q nL pc lv (.int x1 :: .ref (Γ.2.2.1 112) :: st) σ :=
  g_callV (As := [.int x1]) (rest := st) X hd (c_MO_submit' hf) co_MO_submit hlk wn_MO_submit wse_MO_submit (by decide) kd_112 rfl hR rfl rfl hw k
end
set_option maxRecDepth 10000 in
theorem c_MO_withdraw' {Γ : Gm} {l : Launch} {x1 : Int32} {σ σ' : Sg} {r : Int32} (hf : f_MO_withdraw x1 σ = some (r, σ')) : Ctr Γ l y_MO_withdraw c_MO_withdraw 2 (some .int) 2 43 [.ref (Γ.2.2.1 112), .int x1] σ σ' (some (.int r)) := by
  refine Ctr.of (lv := [(0, .ref (Γ.2.2.1 112)), (1, .int x1)]) (by decide +kernel) (Nat.le_of_ble_eq_true rfl) rfl ?_
  intro p e s m args below meth c X hr hk9
  have X : Cx Γ p (z_rm 2 43) s m args c c_MO_withdraw 2 "CaptionTalliesModel" 0 0 := X
  rw [f_MO_withdraw] at hf
  refine g_aload_n X d_MO_withdraw_0 0 rfl ?_
  refine g_iload_n X d_MO_withdraw_1 1 rfl ?_
  obtain ⟨r1, σ2, er1, hf⟩ := bd_some hf
  refine ca_MO_is X d_MO_withdraw_2 wl_MO_96 ⟨Nat.le_of_ble_eq_true rfl, Nat.le_of_ble_eq_true rfl⟩ (sum8 rfl) er1 ?_
  refine g_if_ne X d_MO_withdraw_5 10 (by decide) (fun q3 => ?_) (fun q3 => ?_)
  · have hf := ite_f q3 hf
    refine g_aload_n X d_MO_withdraw_10 0 rfl ?_
    obtain ⟨r4, σ5, er4, hf⟩ := bd_some hf
    refine ca_MO_record X d_MO_withdraw_11 wl_MO_156 ⟨Nat.le_of_ble_eq_true rfl, Nat.le_of_ble_eq_true rfl⟩ (sum8 rfl) er4 ?_
    refine g_aload_n X d_MO_withdraw_14 0 rfl ?_
    refine gf_112_0 X d_MO_withdraw_15 wl_MO_7 ?_
    refine g_bipush X d_MO_withdraw_18 (v := (nI 29)) rfl ?_
    refine g_iload_n X d_MO_withdraw_20 1 rfl ?_
    refine g_iadd X d_MO_withdraw_21 ?_
    refine g_iconst X d_MO_withdraw_22 (v := (nI 0)) rfl ?_
    obtain ⟨b6, hf⟩ := gd_some hf
    obtain ⟨σ7, eσ7, hf⟩ := lt_ex hf
    refine g_iast X d_MO_withdraw_23 kd_113 b6 eσ7 ?_
    refine g_aload_n X d_MO_withdraw_24 0 rfl ?_
    obtain ⟨r8, σ9, er8, hf⟩ := bd_some hf
    refine ca_MO_there X d_MO_withdraw_25 wl_MO_159 ⟨Nat.le_of_ble_eq_true rfl, Nat.le_of_ble_eq_true rfl⟩ (sum8 rfl) er8 ?_
    exact g_iret X d_MO_withdraw_28 hr hk9 hf
  · have hf := ite_t q3 hf
    refine g_iconst X d_MO_withdraw_8 (v := (-1)) rfl ?_
    exact g_iret X d_MO_withdraw_9 hr hk9 hf
section
variable {R : Room} {kc ks : Nat} {Q : State → Prop} {nL : Nat} {cc : ByteArray} {own : String} {pc : Nat} {lv lv' : List (Nat × Value)} {st : List Value}
theorem ca_MO_withdraw {x1 : Int32} (X : Cx Γ p R s m args c cc nL own kc ks) {idx : Nat} (hd : decode cc pc = .ok (.invokevirtual idx, 3)) (hlk : Cond.methodLink own idx y_MO_withdraw ∈ lw_gt) (hR : 2 + 1 ≤ R.frames ∧ 8 + (2 + 11) + 43 ≤ R.locals) (hw : (st.map fun v => v.category).sum ≤ 8) {σ σ' : Sg} {r : Int32} (hf : f_MO_withdraw x1 σ = some (r, σ')) (k : G Γ p l e R s m args below meth c kc ks Q nL (pc + 3) lv (.int r :: st) σ') : G Γ p l e R s m args below meth c kc ks Q nL pc lv (.int x1 :: .ref (Γ.2.2.1 112) :: st) σ :=
  g_callV (As := [.int x1]) (rest := st) X hd (c_MO_withdraw' hf) co_MO_withdraw hlk wn_MO_withdraw wse_MO_withdraw (by decide) kd_112 rfl hR rfl rfl hw k
end
set_option maxRecDepth 10000 in
theorem c_MO_join' {Γ : Gm} {l : Launch} {x1 : Int32} {x2 : Int32} {σ σ' : Sg} {r : Int32} (hf : f_MO_join x1 x2 σ = some (r, σ')) : Ctr Γ l y_MO_join c_MO_join 3 (some .int) 4 89 [.ref (Γ.2.2.1 112), .int x1, .int x2] σ σ' (some (.int r)) := by
  refine Ctr.of (lv := [(0, .ref (Γ.2.2.1 112)), (1, .int x1), (2, .int x2)]) (by decide +kernel) (Nat.le_of_ble_eq_true rfl) rfl ?_
  intro p e s m args below meth c X hr hk9
  have X : Cx Γ p (z_rm 4 89) s m args c c_MO_join 3 "CaptionTalliesModel" 0 0 := X
  rw [f_MO_join] at hf
  refine g_aload_n X d_MO_join_0 0 rfl ?_
  refine g_iload_n X d_MO_join_1 1 rfl ?_
  obtain ⟨r1, σ2, er1, hf⟩ := bd_some hf
  refine ca_MO_is X d_MO_join_2 wl_MO_96 ⟨Nat.le_of_ble_eq_true rfl, Nat.le_of_ble_eq_true rfl⟩ (sum8 rfl) er1 ?_
  refine g_if_eq X d_MO_join_5 16 (by decide) (fun q3 => ?_) (fun q3 => ?_)
  · have hf := ite_t q3 hf
    refine g_iconst X d_MO_join_16 (v := (-1)) rfl ?_
    exact g_iret X d_MO_join_17 hr hk9 hf
  · have hf := ite_f q3 hf
    refine g_aload_n X d_MO_join_8 0 rfl ?_
    refine g_iload_n X d_MO_join_9 2 rfl ?_
    obtain ⟨r4, σ5, er4, hf⟩ := bd_some hf
    refine ca_MO_is X d_MO_join_10 wl_MO_96 ⟨Nat.le_of_ble_eq_true rfl, Nat.le_of_ble_eq_true rfl⟩ (sum8 rfl) er4 ?_
    refine g_if_ne X d_MO_join_13 18 (by decide) (fun q6 => ?_) (fun q6 => ?_)
    · have hf := ite_f q6 hf
      refine g_iload_n X d_MO_join_18 1 rfl ?_
      refine g_iload_n X d_MO_join_19 2 rfl ?_
      refine g_ic_ne X d_MO_join_20 26 (by decide) (fun q7 => ?_) (fun q7 => ?_)
      · have hf := ite_f q7 hf
        refine g_aload_n X d_MO_join_26 0 rfl ?_
        obtain ⟨r8, σ9, er8, hf⟩ := bd_some hf
        refine ca_MO_heads X d_MO_join_27 wl_MO_112 ⟨Nat.le_of_ble_eq_true rfl, Nat.le_of_ble_eq_true rfl⟩ (sum8 rfl) er8 ?_
        refine g_aload_n X d_MO_join_30 0 rfl ?_
        refine gf_112_7 X d_MO_join_31 wl_MO_22 ?_
        refine g_iload_n X d_MO_join_34 1 rfl ?_
        obtain ⟨b10, hf⟩ := gd_some hf
        refine g_iald X d_MO_join_35 kd_117 b10 ?_
        refine g_aload_n X d_MO_join_36 0 rfl ?_
        refine gf_112_7 X d_MO_join_37 wl_MO_22 ?_
        refine g_iload_n X d_MO_join_40 2 rfl ?_
        obtain ⟨b11, hf⟩ := gd_some hf
        refine g_iald X d_MO_join_41 kd_117 b11 ?_
        refine g_ic_ne X d_MO_join_42 48 (by decide) (fun q12 => ?_) (fun q12 => ?_)
        · have hf := ite_f q12 hf
          refine g_aload_n X d_MO_join_48 0 rfl ?_
          obtain ⟨r13, σ14, er13, hf⟩ := bd_some hf
          refine ca_MO_record X d_MO_join_49 wl_MO_156 ⟨Nat.le_of_ble_eq_true rfl, Nat.le_of_ble_eq_true rfl⟩ (sum8 rfl) er13 ?_
          refine g_aload_n X d_MO_join_52 0 rfl ?_
          refine gf_112_0 X d_MO_join_53 wl_MO_7 ?_
          refine g_bipush X d_MO_join_56 (v := (nI 49)) rfl ?_
          refine g_iload_n X d_MO_join_58 1 rfl ?_
          refine g_iadd X d_MO_join_59 ?_
          refine g_dup2 X d_MO_join_60 rfl rfl ?_
          obtain ⟨b15, hf⟩ := gd_some hf
          refine g_iald X d_MO_join_61 kd_113 b15 ?_
          refine g_iconst X d_MO_join_62 (v := (nI 1)) rfl ?_
          refine g_iload_n X d_MO_join_63 2 rfl ?_
          refine g_ishl X d_MO_join_64 ?_
          refine g_ior X d_MO_join_65 ?_
          obtain ⟨b16, hf⟩ := gd_some hf
          obtain ⟨σ17, eσ17, hf⟩ := lt_ex hf
          refine g_iast X d_MO_join_66 kd_113 b16 eσ17 ?_
          refine g_aload_n X d_MO_join_67 0 rfl ?_
          refine gf_112_0 X d_MO_join_68 wl_MO_7 ?_
          refine g_bipush X d_MO_join_71 (v := (nI 49)) rfl ?_
          refine g_iload_n X d_MO_join_73 2 rfl ?_
          refine g_iadd X d_MO_join_74 ?_
          refine g_dup2 X d_MO_join_75 rfl rfl ?_
          obtain ⟨b18, hf⟩ := gd_some hf
          refine g_iald X d_MO_join_76 kd_113 b18 ?_
          refine g_iconst X d_MO_join_77 (v := (nI 1)) rfl ?_
          refine g_iload_n X d_MO_join_78 1 rfl ?_
          refine g_ishl X d_MO_join_79 ?_
          refine g_ior X d_MO_join_80 ?_
          obtain ⟨b19, hf⟩ := gd_some hf
          obtain ⟨σ20, eσ20, hf⟩ := lt_ex hf
          refine g_iast X d_MO_join_81 kd_113 b19 eσ20 ?_
          refine g_aload_n X d_MO_join_82 0 rfl ?_
          obtain ⟨r21, σ22, er21, hf⟩ := bd_some hf
          refine ca_MO_heads X d_MO_join_83 wl_MO_112 ⟨Nat.le_of_ble_eq_true rfl, Nat.le_of_ble_eq_true rfl⟩ (sum8 rfl) er21 ?_
          refine g_aload_n X d_MO_join_86 0 rfl ?_
          refine gf_112_7 X d_MO_join_87 wl_MO_22 ?_
          refine g_iload_n X d_MO_join_90 1 rfl ?_
          obtain ⟨b23, hf⟩ := gd_some hf
          refine g_iald X d_MO_join_91 kd_117 b23 ?_
          exact g_iret X d_MO_join_92 hr hk9 hf
        · have hf := ite_t q12 hf
          refine g_bipush X d_MO_join_45 (v := (-5)) rfl ?_
          exact g_iret X d_MO_join_47 hr hk9 hf
      · have hf := ite_t q7 hf
        refine g_bipush X d_MO_join_23 (v := (-2)) rfl ?_
        exact g_iret X d_MO_join_25 hr hk9 hf
    · have hf := ite_t q6 hf
      refine g_iconst X d_MO_join_16 (v := (-1)) rfl ?_
      exact g_iret X d_MO_join_17 hr hk9 hf
section
variable {R : Room} {kc ks : Nat} {Q : State → Prop} {nL : Nat} {cc : ByteArray} {own : String} {pc : Nat} {lv lv' : List (Nat × Value)} {st : List Value}
theorem ca_MO_join {x1 : Int32} {x2 : Int32} (X : Cx Γ p R s m args c cc nL own kc ks) {idx : Nat} (hd : decode cc pc = .ok (.invokevirtual idx, 3)) (hlk : Cond.methodLink own idx y_MO_join ∈ lw_gt) (hR : 4 + 1 ≤ R.frames ∧ 8 + (3 + 11) + 89 ≤ R.locals) (hw : (st.map fun v => v.category).sum ≤ 8) {σ σ' : Sg} {r : Int32} (hf : f_MO_join x1 x2 σ = some (r, σ')) (k : G Γ p l e R s m args below meth c kc ks Q nL (pc + 3) lv (.int r :: st) σ') : G Γ p l e R s m args below meth c kc ks Q nL pc lv (.int x2 :: .int x1 :: .ref (Γ.2.2.1 112) :: st) σ :=
  g_callV (As := [.int x1, .int x2]) (rest := st) X hd (c_MO_join' hf) co_MO_join hlk wn_MO_join wse_MO_join (by decide) kd_112 rfl hR rfl rfl hw k
end
set_option maxRecDepth 10000 in
theorem w_MO_part_41 {r : Int32} {σ' : Sg} (X : Cx Γ p (z_rm 4 89) s m args c c_MO_part 3 "CaptionTalliesModel" 0 0) (hr : meth.sig.returnType = (some .int)) (hk9 : meth.locks = false) : ∀ (n9 : Nat) (x1 : Int32) (x2 : Int32) (σ : Sg), f_MO_part_41 n9 x1 x2 σ = some (r, σ') → G Γ p l e (z_rm 4 89) s m args below meth c 0 0 (MQ below (Qx Γ (some (.int r)) σ') args s 0 0 (fun q : Nat => Γ.2.2.2 ≤ q)) 3 41 [(0, .ref (Γ.2.2.1 112)), (1, .int x1), (2, .int x2)] [] σ := by
  intro n9
  induction n9 with
  | zero => intro x1 x2 σ hf; cases hf
  | succ n9 ih =>
    intro x1 x2 σ hf
    rw [f_MO_part_41] at hf
    refine g_iload_n X d_MO_part_41 2 rfl ?_
    refine g_bipush X d_MO_part_42 (v := (nI 20)) rfl ?_
    refine g_ic_ge X d_MO_part_44 70 (by decide) (fun q1 => ?_) (fun q1 => ?_)
    · have hf := ite_t q1 hf
      refine g_aload_n X d_MO_part_70 0 rfl ?_
      obtain ⟨r2, σ3, er2, hf⟩ := bd_some hf
      refine ca_MO_heads X d_MO_part_71 wl_MO_112 ⟨Nat.le_of_ble_eq_true rfl, Nat.le_of_ble_eq_true rfl⟩ (sum8 rfl) er2 ?_
      refine g_aload_n X d_MO_part_74 0 rfl ?_
      refine gf_112_7 X d_MO_part_75 wl_MO_22 ?_
      refine g_iload_n X d_MO_part_78 1 rfl ?_
      obtain ⟨b4, hf⟩ := gd_some hf
      refine g_iald X d_MO_part_79 kd_117 b4 ?_
      exact g_iret X d_MO_part_80 hr hk9 hf
    · have hf := ite_f q1 hf
      refine g_aload_n X d_MO_part_47 0 rfl ?_
      refine gf_112_0 X d_MO_part_48 wl_MO_7 ?_
      refine g_bipush X d_MO_part_51 (v := (nI 49)) rfl ?_
      refine g_iload_n X d_MO_part_53 2 rfl ?_
      refine g_iadd X d_MO_part_54 ?_
      refine g_dup2 X d_MO_part_55 rfl rfl ?_
      obtain ⟨b5, hf⟩ := gd_some hf
      refine g_iald X d_MO_part_56 kd_113 b5 ?_
      refine g_iconst X d_MO_part_57 (v := (nI 1)) rfl ?_
      refine g_iload_n X d_MO_part_58 1 rfl ?_
      refine g_ishl X d_MO_part_59 ?_
      refine g_iconst X d_MO_part_60 (v := (-1)) rfl ?_
      refine g_ixor X d_MO_part_61 ?_
      refine g_iand X d_MO_part_62 ?_
      obtain ⟨b6, hf⟩ := gd_some hf
      obtain ⟨σ7, eσ7, hf⟩ := lt_ex hf
      refine g_iast X d_MO_part_63 kd_113 b6 eσ7 ?_
      refine g_iinc X d_MO_part_64 (j := 2) (lv' := [(2, .int (x2 + (nI 1))), (0, .ref (Γ.2.2.1 112)), (1, .int x1)]) rfl rfl (Nat.le_of_ble_eq_true rfl) rfl ?_
      refine g_goto X d_MO_part_67 41 (by decide) ?_
      refine g_sub [1, 2, 0] rfl ?_
      exact ih _ _ _ hf
set_option maxRecDepth 10000 in
theorem c_MO_part' {Γ : Gm} {l : Launch} {x1 : Int32} {σ σ' : Sg} {r : Int32} (hf : f_MO_part x1 σ = some (r, σ')) : Ctr Γ l y_MO_part c_MO_part 3 (some .int) 4 89 [.ref (Γ.2.2.1 112), .int x1] σ σ' (some (.int r)) := by
  refine Ctr.of (lv := [(0, .ref (Γ.2.2.1 112)), (1, .int x1)]) (by decide +kernel) (Nat.le_of_ble_eq_true rfl) rfl ?_
  intro p e s m args below meth c X hr hk9
  have X : Cx Γ p (z_rm 4 89) s m args c c_MO_part 3 "CaptionTalliesModel" 0 0 := X
  rw [f_MO_part] at hf
  refine g_aload_n X d_MO_part_0 0 rfl ?_
  refine g_iload_n X d_MO_part_1 1 rfl ?_
  obtain ⟨r1, σ2, er1, hf⟩ := bd_some hf
  refine ca_MO_is X d_MO_part_2 wl_MO_96 ⟨Nat.le_of_ble_eq_true rfl, Nat.le_of_ble_eq_true rfl⟩ (sum8 rfl) er1 ?_
  refine g_if_ne X d_MO_part_5 10 (by decide) (fun q3 => ?_) (fun q3 => ?_)
  · have hf := ite_f q3 hf
    refine g_aload_n X d_MO_part_10 0 rfl ?_
    refine gf_112_0 X d_MO_part_11 wl_MO_7 ?_
    refine g_bipush X d_MO_part_14 (v := (nI 49)) rfl ?_
    refine g_iload_n X d_MO_part_16 1 rfl ?_
    refine g_iadd X d_MO_part_17 ?_
    obtain ⟨b4, hf⟩ := gd_some hf
    refine g_iald X d_MO_part_18 kd_113 b4 ?_
    refine g_if_ne X d_MO_part_19 25 (by decide) (fun q5 => ?_) (fun q5 => ?_)
    · have hf := ite_f q5 hf
      refine g_aload_n X d_MO_part_25 0 rfl ?_
      obtain ⟨r6, σ7, er6, hf⟩ := bd_some hf
      refine ca_MO_record X d_MO_part_26 wl_MO_156 ⟨Nat.le_of_ble_eq_true rfl, Nat.le_of_ble_eq_true rfl⟩ (sum8 rfl) er6 ?_
      refine g_aload_n X d_MO_part_29 0 rfl ?_
      refine gf_112_0 X d_MO_part_30 wl_MO_7 ?_
      refine g_bipush X d_MO_part_33 (v := (nI 49)) rfl ?_
      refine g_iload_n X d_MO_part_35 1 rfl ?_
      refine g_iadd X d_MO_part_36 ?_
      refine g_iconst X d_MO_part_37 (v := (nI 0)) rfl ?_
      obtain ⟨b8, hf⟩ := gd_some hf
      obtain ⟨σ9, eσ9, hf⟩ := lt_ex hf
      refine g_iast X d_MO_part_38 kd_113 b8 eσ9 ?_
      refine g_iconst X d_MO_part_39 (v := (nI 0)) rfl ?_
      refine g_istore_n X d_MO_part_40 rfl (lv' := [(2, .int (nI 0)), (0, .ref (Γ.2.2.1 112)), (1, .int x1)]) (Nat.le_of_ble_eq_true rfl) rfl ?_
      refine g_sub [1, 2, 0] rfl ?_
      exact w_MO_part_41 X hr hk9 _ _ _ _ hf
    · have hf := ite_t q5 hf
      refine g_bipush X d_MO_part_22 (v := (-5)) rfl ?_
      exact g_iret X d_MO_part_24 hr hk9 hf
  · have hf := ite_t q3 hf
    refine g_iconst X d_MO_part_8 (v := (-1)) rfl ?_
    exact g_iret X d_MO_part_9 hr hk9 hf
section
variable {R : Room} {kc ks : Nat} {Q : State → Prop} {nL : Nat} {cc : ByteArray} {own : String} {pc : Nat} {lv lv' : List (Nat × Value)} {st : List Value}
theorem ca_MO_part {x1 : Int32} (X : Cx Γ p R s m args c cc nL own kc ks) {idx : Nat} (hd : decode cc pc = .ok (.invokevirtual idx, 3)) (hlk : Cond.methodLink own idx y_MO_part ∈ lw_gt) (hR : 4 + 1 ≤ R.frames ∧ 8 + (3 + 11) + 89 ≤ R.locals) (hw : (st.map fun v => v.category).sum ≤ 8) {σ σ' : Sg} {r : Int32} (hf : f_MO_part x1 σ = some (r, σ')) (k : G Γ p l e R s m args below meth c kc ks Q nL (pc + 3) lv (.int r :: st) σ') : G Γ p l e R s m args below meth c kc ks Q nL pc lv (.int x1 :: .ref (Γ.2.2.1 112) :: st) σ :=
  g_callV (As := [.int x1]) (rest := st) X hd (c_MO_part' hf) co_MO_part hlk wn_MO_part wse_MO_part (by decide) kd_112 rfl hR rfl rfl hw k
end
set_option maxRecDepth 10000 in
theorem w_MO_vote_255 {r : Int32} {σ' : Sg} (X : Cx Γ p (z_rm 2 43) s m args c c_MO_vote 12 "CaptionTalliesModel" 0 0) (hr : meth.sig.returnType = (some .int)) (hk9 : meth.locks = false)  (x2 : Int32) (x3 : Int32) (x4 : Int32) (x8 : Int32) (x9 : Int32) (x10 : Int32) (x11 : Int32) (σ : Sg) (hf : f_MO_vote_255 x2 x3 x4 x8 x9 x10 x11 σ = some (r, σ')) : G Γ p l e (z_rm 2 43) s m args below meth c 0 0 (MQ below (Qx Γ (some (.int r)) σ') args s 0 0 (fun q : Nat => Γ.2.2.2 ≤ q)) 12 255 [(0, .ref (Γ.2.2.1 112)), (2, .int x2), (3, .int x3), (4, .int x4), (8, .int x8), (9, .int x9), (10, .int x10), (11, .int x11)] [] σ := by
  rw [f_MO_vote_255] at hf
  refine g_aload_n X d_MO_vote_255 0 rfl ?_
  obtain ⟨r1, σ2, er1, hf⟩ := bd_some hf
  refine ca_MO_record X d_MO_vote_256 wl_MO_156 ⟨Nat.le_of_ble_eq_true rfl, Nat.le_of_ble_eq_true rfl⟩ (sum8 rfl) er1 ?_
  refine g_aload_n X d_MO_vote_259 0 rfl ?_
  refine gf_112_0 X d_MO_vote_260 wl_MO_7 ?_
  refine g_iload X d_MO_vote_263 4 rfl ?_
  refine g_iload X d_MO_vote_265 5 rfl ?_
  obtain ⟨b3, hf⟩ := gd_some hf
  obtain ⟨σ4, eσ4, hf⟩ := lt_ex hf
  refine g_iast X d_MO_vote_267 kd_113 b3 eσ4 ?_
  refine g_aload_n X d_MO_vote_268 0 rfl ?_
  refine gf_112_0 X d_MO_vote_269 wl_MO_7 ?_
  refine g_iload X d_MO_vote_272 4 rfl ?_
  refine g_iconst X d_MO_vote_274 (v := (nI 1)) rfl ?_
  refine g_iadd X d_MO_vote_275 ?_
  refine g_iload X d_MO_vote_276 6 rfl ?_
  obtain ⟨b5, hf⟩ := gd_some hf
  obtain ⟨σ6, eσ6, hf⟩ := lt_ex hf
  refine g_iast X d_MO_vote_278 kd_113 b5 eσ6 ?_
  refine g_aload_n X d_MO_vote_279 0 rfl ?_
  refine gf_112_0 X d_MO_vote_280 wl_MO_7 ?_
  refine g_iload X d_MO_vote_283 4 rfl ?_
  refine g_iconst X d_MO_vote_285 (v := (nI 2)) rfl ?_
  refine g_iadd X d_MO_vote_286 ?_
  refine g_iload X d_MO_vote_287 7 rfl ?_
  obtain ⟨b7, hf⟩ := gd_some hf
  obtain ⟨σ8, eσ8, hf⟩ := lt_ex hf
  refine g_iast X d_MO_vote_289 kd_113 b7 eσ8 ?_
  refine g_iload X d_MO_vote_290 3 rfl ?_
  refine g_bipush X d_MO_vote_292 (v := (-5)) rfl ?_
  refine g_ic_eq X d_MO_vote_294 301 (by decide) (fun q9 => ?_) (fun q9 => ?_)
  · have hf := ite_t q9 hf
    refine g_iload_n X d_MO_vote_301 2 rfl ?_
    refine g_bipush X d_MO_vote_302 (v := (-5)) rfl ?_
    refine g_ic_eq X d_MO_vote_304 311 (by decide) (fun q10 => ?_) (fun q10 => ?_)
    · have hf := ite_t q10 hf
      refine g_iload_n X d_MO_vote_311 1 rfl ?_
      refine g_bipush X d_MO_vote_312 (v := (-5)) rfl ?_
      refine g_ic_eq X d_MO_vote_314 321 (by decide) (fun q11 => ?_) (fun q11 => ?_)
      · have hf := ite_t q11 hf
        refine g_iconst X d_MO_vote_321 (v := (nI 0)) rfl ?_
        exact g_iret X d_MO_vote_322 hr hk9 hf
      · have hf := ite_f q11 hf
        refine g_iconst X d_MO_vote_317 (v := (nI 1)) rfl ?_
        refine g_goto X d_MO_vote_318 322 (by decide) ?_
        exact g_iret X d_MO_vote_322 hr hk9 hf
    · have hf := ite_f q10 hf
      refine g_iconst X d_MO_vote_307 (v := (nI 2)) rfl ?_
      refine g_goto X d_MO_vote_308 322 (by decide) ?_
      exact g_iret X d_MO_vote_322 hr hk9 hf
  · have hf := ite_f q9 hf
    refine g_iconst X d_MO_vote_297 (v := (nI 3)) rfl ?_
    refine g_goto X d_MO_vote_298 322 (by decide) ?_
    exact g_iret X d_MO_vote_322 hr hk9 hf
set_option maxRecDepth 10000 in
theorem w_MO_vote_210 {r : Int32} {σ' : Sg} (X : Cx Γ p (z_rm 2 43) s m args c c_MO_vote 12 "CaptionTalliesModel" 0 0) (hr : meth.sig.returnType = (some .int)) (hk9 : meth.locks = false)  (x2 : Int32) (x3 : Int32) (x4 : Int32) (x8 : Int32) (x9 : Int32) (x10 : Int32) (t0 : Int32) (σ : Sg) (hf : f_MO_vote_210 x2 x3 x4 x8 x9 x10 t0 σ = some (r, σ')) : G Γ p l e (z_rm 2 43) s m args below meth c 0 0 (MQ below (Qx Γ (some (.int r)) σ') args s 0 0 (fun q : Nat => Γ.2.2.2 ≤ q)) 12 210 [(0, .ref (Γ.2.2.1 112)), (2, .int x2), (3, .int x3), (4, .int x4), (8, .int x8), (9, .int x9), (10, .int x10)] [.int t0] σ := by
  rw [f_MO_vote_210] at hf
  refine g_istore X d_MO_vote_210 (lv' := [(11, .int t0), (0, .ref (Γ.2.2.1 112)), (2, .int x2), (3, .int x3), (4, .int x4), (8, .int x8), (9, .int x9), (10, .int x10)]) (Nat.le_of_ble_eq_true rfl) rfl ?_
  refine g_aload_n X d_MO_vote_212 1 rfl ?_
  refine gf_112_0 X d_MO_vote_213 wl_MO_7 ?_
  refine g_iload X d_MO_vote_216 5 rfl ?_
  obtain ⟨b1, hf⟩ := gd_some hf
  refine g_iald X d_MO_vote_218 kd_113 b1 ?_
  refine g_iload X d_MO_vote_219 6 rfl ?_
  refine g_ic_ne X d_MO_vote_221 255 (by decide) (fun q2 => ?_) (fun q2 => ?_)
  · have hf := ite_f q2 hf
    refine g_sub [1, 2, 3, 4, 5, 6, 7, 0] rfl ?_
    exact w_MO_vote_255 X hr hk9 _ _ _ _ _ _ _ _ hf
  · have hf := ite_t q2 hf
    refine g_aload_n X d_MO_vote_224 1 rfl ?_
    refine gf_112_0 X d_MO_vote_225 wl_MO_7 ?_
    refine g_iload X d_MO_vote_228 5 rfl ?_
    refine g_iconst X d_MO_vote_230 (v := (nI 1)) rfl ?_
    refine g_iadd X d_MO_vote_231 ?_
    obtain ⟨b3, hf⟩ := gd_some hf
    refine g_iald X d_MO_vote_232 kd_113 b3 ?_
    refine g_iload X d_MO_vote_233 7 rfl ?_
    refine g_ic_ne X d_MO_vote_235 255 (by decide) (fun q4 => ?_) (fun q4 => ?_)
    · have hf := ite_f q4 hf
      refine g_sub [1, 2, 3, 4, 5, 6, 7, 0] rfl ?_
      exact w_MO_vote_255 X hr hk9 _ _ _ _ _ _ _ _ hf
    · have hf := ite_t q4 hf
      refine g_aload_n X d_MO_vote_238 1 rfl ?_
      refine gf_112_0 X d_MO_vote_239 wl_MO_7 ?_
      refine g_iload X d_MO_vote_242 5 rfl ?_
      refine g_iconst X d_MO_vote_244 (v := (nI 2)) rfl ?_
      refine g_iadd X d_MO_vote_245 ?_
      obtain ⟨b5, hf⟩ := gd_some hf
      refine g_iald X d_MO_vote_246 kd_113 b5 ?_
      refine g_iload X d_MO_vote_247 0 rfl ?_
      refine g_ic_ne X d_MO_vote_249 255 (by decide) (fun q6 => ?_) (fun q6 => ?_)
      · have hf := ite_f q6 hf
        refine g_sub [1, 2, 3, 4, 5, 6, 7, 0] rfl ?_
        exact w_MO_vote_255 X hr hk9 _ _ _ _ _ _ _ _ hf
      · have hf := ite_t q6 hf
        refine g_bipush X d_MO_vote_252 (v := (-5)) rfl ?_
        exact g_iret X d_MO_vote_254 hr hk9 hf
set_option maxRecDepth 10000 in
theorem w_MO_vote_193 {r : Int32} {σ' : Sg} (X : Cx Γ p (z_rm 2 43) s m args c c_MO_vote 12 "CaptionTalliesModel" 0 0) (hr : meth.sig.returnType = (some .int)) (hk9 : meth.locks = false)  (x2 : Int32) (x3 : Int32) (x4 : Int32) (x8 : Int32) (x9 : Int32) (t0 : Int32) (σ : Sg) (hf : f_MO_vote_193 x2 x3 x4 x8 x9 t0 σ = some (r, σ')) : G Γ p l e (z_rm 2 43) s m args below meth c 0 0 (MQ below (Qx Γ (some (.int r)) σ') args s 0 0 (fun q : Nat => Γ.2.2.2 ≤ q)) 12 193 [(0, .ref (Γ.2.2.1 112)), (2, .int x2), (3, .int x3), (4, .int x4), (8, .int x8), (9, .int x9)] [.int t0] σ := by
  rw [f_MO_vote_193] at hf
  refine g_istore X d_MO_vote_193 (lv' := [(10, .int t0), (0, .ref (Γ.2.2.1 112)), (2, .int x2), (3, .int x3), (4, .int x4), (8, .int x8), (9, .int x9)]) (Nat.le_of_ble_eq_true rfl) rfl ?_
  refine g_iload X d_MO_vote_195 4 rfl ?_
  refine g_bipush X d_MO_vote_197 (v := (-5)) rfl ?_
  refine g_ic_ne X d_MO_vote_199 206 (by decide) (fun q1 => ?_) (fun q1 => ?_)
  · have hf := ite_f q1 hf
    refine g_iload X d_MO_vote_206 4 rfl ?_
    refine g_iconst X d_MO_vote_208 (v := (nI 1)) rfl ?_
    refine g_iadd X d_MO_vote_209 ?_
    refine g_sub [1, 2, 3, 4, 5, 6, 0] rfl ?_
    exact w_MO_vote_210 X hr hk9 _ _ _ _ _ _ _ _ hf
  · have hf := ite_t q1 hf
    refine g_iconst X d_MO_vote_202 (v := (nI 0)) rfl ?_
    refine g_goto X d_MO_vote_203 210 (by decide) ?_
    refine g_sub [1, 2, 3, 4, 5, 6, 0] rfl ?_
    exact w_MO_vote_210 X hr hk9 _ _ _ _ _ _ _ _ hf
set_option maxRecDepth 10000 in
theorem w_MO_vote_178 {r : Int32} {σ' : Sg} (X : Cx Γ p (z_rm 2 43) s m args c c_MO_vote 12 "CaptionTalliesModel" 0 0) (hr : meth.sig.returnType = (some .int)) (hk9 : meth.locks = false)  (x2 : Int32) (x3 : Int32) (x4 : Int32) (x8 : Int32) (t0 : Int32) (σ : Sg) (hf : f_MO_vote_178 x2 x3 x4 x8 t0 σ = some (r, σ')) : G Γ p l e (z_rm 2 43) s m args below meth c 0 0 (MQ below (Qx Γ (some (.int r)) σ') args s 0 0 (fun q : Nat => Γ.2.2.2 ≤ q)) 12 178 [(0, .ref (Γ.2.2.1 112)), (2, .int x2), (3, .int x3), (4, .int x4), (8, .int x8)] [.int t0] σ := by
  rw [f_MO_vote_178] at hf
  refine g_istore X d_MO_vote_178 (lv' := [(9, .int t0), (0, .ref (Γ.2.2.1 112)), (2, .int x2), (3, .int x3), (4, .int x4), (8, .int x8)]) (Nat.le_of_ble_eq_true rfl) rfl ?_
  refine g_iload_n X d_MO_vote_180 3 rfl ?_
  refine g_bipush X d_MO_vote_181 (v := (-5)) rfl ?_
  refine g_ic_ne X d_MO_vote_183 190 (by decide) (fun q1 => ?_) (fun q1 => ?_)
  · have hf := ite_f q1 hf
    refine g_iload_n X d_MO_vote_190 3 rfl ?_
    refine g_iconst X d_MO_vote_191 (v := (nI 1)) rfl ?_
    refine g_iadd X d_MO_vote_192 ?_
    refine g_sub [1, 2, 3, 4, 5, 0] rfl ?_
    exact w_MO_vote_193 X hr hk9 _ _ _ _ _ _ _ hf
  · have hf := ite_t q1 hf
    refine g_iconst X d_MO_vote_186 (v := (nI 0)) rfl ?_
    refine g_goto X d_MO_vote_187 193 (by decide) ?_
    refine g_sub [1, 2, 3, 4, 5, 0] rfl ?_
    exact w_MO_vote_193 X hr hk9 _ _ _ _ _ _ _ hf
set_option maxRecDepth 10000 in
theorem w_MO_vote_141 {r : Int32} {σ' : Sg} (X : Cx Γ p (z_rm 2 43) s m args c c_MO_vote 12 "CaptionTalliesModel" 0 0) (hr : meth.sig.returnType = (some .int)) (hk9 : meth.locks = false)  (x1 : Int32) (x2 : Int32) (x3 : Int32) (x4 : Int32) (x6 : Int32) (t0 : Int32) (σ : Sg) (hf : f_MO_vote_141 x1 x2 x3 x4 x6 t0 σ = some (r, σ')) : G Γ p l e (z_rm 2 43) s m args below meth c 0 0 (MQ below (Qx Γ (some (.int r)) σ') args s 0 0 (fun q : Nat => Γ.2.2.2 ≤ q)) 12 141 [(0, .ref (Γ.2.2.1 112)), (1, .int x1), (2, .int x2), (3, .int x3), (4, .int x4), (6, .int x6)] [.int t0] σ := by
  rw [f_MO_vote_141] at hf
  refine g_istore X d_MO_vote_141 (lv' := [(7, .int t0), (0, .ref (Γ.2.2.1 112)), (1, .int x1), (2, .int x2), (3, .int x3), (4, .int x4), (6, .int x6)]) (Nat.le_of_ble_eq_true rfl) rfl ?_
  refine g_iload X d_MO_vote_143 6 rfl ?_
  refine g_if_ne X d_MO_vote_145 153 (by decide) (fun q1 => ?_) (fun q1 => ?_)
  · have hf := ite_f q1 hf
    refine g_bipush X d_MO_vote_153 (v := (-2)) rfl ?_
    exact g_iret X d_MO_vote_155 hr hk9 hf
  · have hf := ite_t q1 hf
    refine g_iload X d_MO_vote_148 0 rfl ?_
    refine g_if_eq X d_MO_vote_150 156 (by decide) (fun q2 => ?_) (fun q2 => ?_)
    · have hf := ite_t q2 hf
      refine g_sipush X d_MO_vote_156 (v := (nI 1289)) rfl ?_
      refine g_iconst X d_MO_vote_159 (v := (nI 3)) rfl ?_
      refine g_iload_n X d_MO_vote_160 2 rfl ?_
      refine g_imul X d_MO_vote_161 ?_
      refine g_iadd X d_MO_vote_162 ?_
      obtain ⟨v3, ev3, hf⟩ := lt_ex hf
      refine g_top ev3 ?_
      refine g_istore X d_MO_vote_163 (lv' := [(8, .int v3), (7, .int t0), (0, .ref (Γ.2.2.1 112)), (1, .int x1), (2, .int x2), (3, .int x3), (4, .int x4), (6, .int x6)]) (Nat.le_of_ble_eq_true rfl) rfl ?_
      refine g_iload_n X d_MO_vote_165 4 rfl ?_
      refine g_bipush X d_MO_vote_166 (v := (-5)) rfl ?_
      refine g_ic_ne X d_MO_vote_168 175 (by decide) (fun q4 => ?_) (fun q4 => ?_)
      · have hf := ite_f q4 hf
        refine g_iload_n X d_MO_vote_175 4 rfl ?_
        refine g_iconst X d_MO_vote_176 (v := (nI 1)) rfl ?_
        refine g_iadd X d_MO_vote_177 ?_
        refine g_sub [2, 4, 5, 6, 0] rfl ?_
        exact w_MO_vote_178 X hr hk9 _ _ _ _ _ _ hf
      · have hf := ite_t q4 hf
        refine g_iconst X d_MO_vote_171 (v := (nI 0)) rfl ?_
        refine g_goto X d_MO_vote_172 178 (by decide) ?_
        refine g_sub [2, 4, 5, 6, 0] rfl ?_
        exact w_MO_vote_178 X hr hk9 _ _ _ _ _ _ hf
    · have hf := ite_f q2 hf
      refine g_bipush X d_MO_vote_153 (v := (-2)) rfl ?_
      exact g_iret X d_MO_vote_155 hr hk9 hf
set_option maxRecDepth 10000 in
theorem w_MO_vote_124 {r : Int32} {σ' : Sg} (X : Cx Γ p (z_rm 2 43) s m args c c_MO_vote 12 "CaptionTalliesModel" 0 0) (hr : meth.sig.returnType = (some .int)) (hk9 : meth.locks = false)  (x1 : Int32) (x2 : Int32) (x3 : Int32) (x4 : Int32) (x6 : Int32) (σ : Sg) (hf : f_MO_vote_124 x1 x2 x3 x4 x6 σ = some (r, σ')) : G Γ p l e (z_rm 2 43) s m args below meth c 0 0 (MQ below (Qx Γ (some (.int r)) σ') args s 0 0 (fun q : Nat => Γ.2.2.2 ≤ q)) 12 124 [(0, .ref (Γ.2.2.1 112)), (1, .int x1), (2, .int x2), (3, .int x3), (4, .int x4), (6, .int x6)] [] σ := by
  rw [f_MO_vote_124] at hf
  refine g_iload_n X d_MO_vote_124 3 rfl ?_
  refine g_bipush X d_MO_vote_125 (v := (-5)) rfl ?_
  refine g_ic_eq X d_MO_vote_127 140 (by decide) (fun q1 => ?_) (fun q1 => ?_)
  · have hf := ite_t q1 hf
    refine g_iconst X d_MO_vote_140 (v := (nI 0)) rfl ?_
    exact w_MO_vote_141 X hr hk9 _ _ _ _ _ _ _ hf
  · have hf := ite_f q1 hf
    refine g_iload_n X d_MO_vote_130 3 rfl ?_
    refine g_iload X d_MO_vote_131 4 rfl ?_
    refine g_ic_ne X d_MO_vote_133 140 (by decide) (fun q2 => ?_) (fun q2 => ?_)
    · have hf := ite_f q2 hf
      refine g_iconst X d_MO_vote_140 (v := (nI 0)) rfl ?_
      exact w_MO_vote_141 X hr hk9 _ _ _ _ _ _ _ hf
    · have hf := ite_t q2 hf
      refine g_iconst X d_MO_vote_136 (v := (nI 1)) rfl ?_
      refine g_goto X d_MO_vote_137 141 (by decide) ?_
      exact w_MO_vote_141 X hr hk9 _ _ _ _ _ _ _ hf
set_option maxRecDepth 10000 in
theorem w_MO_vote_105 {r : Int32} {σ' : Sg} (X : Cx Γ p (z_rm 2 43) s m args c c_MO_vote 12 "CaptionTalliesModel" 0 0) (hr : meth.sig.returnType = (some .int)) (hk9 : meth.locks = false)  (x1 : Int32) (x2 : Int32) (x3 : Int32) (x4 : Int32) (t0 : Int32) (σ : Sg) (hf : f_MO_vote_105 x1 x2 x3 x4 t0 σ = some (r, σ')) : G Γ p l e (z_rm 2 43) s m args below meth c 0 0 (MQ below (Qx Γ (some (.int r)) σ') args s 0 0 (fun q : Nat => Γ.2.2.2 ≤ q)) 12 105 [(0, .ref (Γ.2.2.1 112)), (1, .int x1), (2, .int x2), (3, .int x3), (4, .int x4)] [.int t0] σ := by
  rw [f_MO_vote_105] at hf
  refine g_istore X d_MO_vote_105 (lv' := [(6, .int t0), (0, .ref (Γ.2.2.1 112)), (1, .int x1), (2, .int x2), (3, .int x3), (4, .int x4)]) (Nat.le_of_ble_eq_true rfl) rfl ?_
  refine g_iload_n X d_MO_vote_107 3 rfl ?_
  refine g_bipush X d_MO_vote_108 (v := (-5)) rfl ?_
  refine g_ic_eq X d_MO_vote_110 124 (by decide) (fun q1 => ?_) (fun q1 => ?_)
  · have hf := ite_t q1 hf
    refine g_sub [1, 2, 3, 4, 5, 0] rfl ?_
    exact w_MO_vote_124 X hr hk9 _ _ _ _ _ _ hf
  · have hf := ite_f q1 hf
    refine g_iload_n X d_MO_vote_113 3 rfl ?_
    refine g_iload_n X d_MO_vote_114 4 rfl ?_
    refine g_ic_eq X d_MO_vote_115 136 (by decide) (fun q2 => ?_) (fun q2 => ?_)
    · have hf := ite_t q2 hf
      refine g_iconst X d_MO_vote_136 (v := (nI 1)) rfl ?_
      refine g_goto X d_MO_vote_137 141 (by decide) ?_
      refine g_sub [1, 2, 3, 4, 5, 0] rfl ?_
      exact w_MO_vote_141 X hr hk9 _ _ _ _ _ _ _ hf
    · have hf := ite_f q2 hf
      refine g_iload_n X d_MO_vote_118 3 rfl ?_
      refine g_iload X d_MO_vote_119 5 rfl ?_
      refine g_ic_eq X d_MO_vote_121 136 (by decide) (fun q3 => ?_) (fun q3 => ?_)
      · have hf := ite_t q3 hf
        refine g_iconst X d_MO_vote_136 (v := (nI 1)) rfl ?_
        refine g_goto X d_MO_vote_137 141 (by decide) ?_
        refine g_sub [1, 2, 3, 4, 5, 0] rfl ?_
        exact w_MO_vote_141 X hr hk9 _ _ _ _ _ _ _ hf
      · have hf := ite_f q3 hf
        refine g_sub [1, 2, 3, 4, 5, 0] rfl ?_
        exact w_MO_vote_124 X hr hk9 _ _ _ _ _ _ hf
set_option maxRecDepth 10000 in
theorem w_MO_vote_87 {r : Int32} {σ' : Sg} (X : Cx Γ p (z_rm 2 43) s m args c c_MO_vote 12 "CaptionTalliesModel" 0 0) (hr : meth.sig.returnType = (some .int)) (hk9 : meth.locks = false)  (x1 : Int32) (x2 : Int32) (x3 : Int32) (x4 : Int32) (σ : Sg) (hf : f_MO_vote_87 x1 x2 x3 x4 σ = some (r, σ')) : G Γ p l e (z_rm 2 43) s m args below meth c 0 0 (MQ below (Qx Γ (some (.int r)) σ') args s 0 0 (fun q : Nat => Γ.2.2.2 ≤ q)) 12 87 [(0, .ref (Γ.2.2.1 112)), (1, .int x1), (2, .int x2), (3, .int x3), (4, .int x4)] [] σ := by
  rw [f_MO_vote_87] at hf
  refine g_iload_n X d_MO_vote_87 3 rfl ?_
  refine g_bipush X d_MO_vote_88 (v := (-5)) rfl ?_
  refine g_ic_ne X d_MO_vote_90 104 (by decide) (fun q1 => ?_) (fun q1 => ?_)
  · have hf := ite_f q1 hf
    refine g_iconst X d_MO_vote_104 (v := (nI 0)) rfl ?_
    exact w_MO_vote_105 X hr hk9 _ _ _ _ _ _ hf
  · have hf := ite_t q1 hf
    refine g_iload X d_MO_vote_93 4 rfl ?_
    refine g_bipush X d_MO_vote_95 (v := (-5)) rfl ?_
    refine g_ic_eq X d_MO_vote_97 104 (by decide) (fun q2 => ?_) (fun q2 => ?_)
    · have hf := ite_t q2 hf
      refine g_iconst X d_MO_vote_104 (v := (nI 0)) rfl ?_
      exact w_MO_vote_105 X hr hk9 _ _ _ _ _ _ hf
    · have hf := ite_f q2 hf
      refine g_iconst X d_MO_vote_100 (v := (nI 1)) rfl ?_
      refine g_goto X d_MO_vote_101 105 (by decide) ?_
      exact w_MO_vote_105 X hr hk9 _ _ _ _ _ _ hf
set_option maxRecDepth 10000 in
theorem w_MO_vote_49 {r : Int32} {σ' : Sg} (X : Cx Γ p (z_rm 2 43) s m args c c_MO_vote 12 "CaptionTalliesModel" 0 0) (hr : meth.sig.returnType = (some .int)) (hk9 : meth.locks = false)  (x1 : Int32) (x2 : Int32) (x3 : Int32) (x4 : Int32) (t0 : Int32) (σ : Sg) (hf : f_MO_vote_49 x1 x2 x3 x4 t0 σ = some (r, σ')) : G Γ p l e (z_rm 2 43) s m args below meth c 0 0 (MQ below (Qx Γ (some (.int r)) σ') args s 0 0 (fun q : Nat => Γ.2.2.2 ≤ q)) 12 49 [(0, .ref (Γ.2.2.1 112)), (1, .int x1), (2, .int x2), (3, .int x3), (4, .int x4)] [.int t0] σ := by
  rw [f_MO_vote_49] at hf
  refine g_istore X d_MO_vote_49 (lv' := [(5, .int t0), (0, .ref (Γ.2.2.1 112)), (1, .int x1), (2, .int x2), (3, .int x3), (4, .int x4)]) (Nat.le_of_ble_eq_true rfl) rfl ?_
  refine g_iload_n X d_MO_vote_51 2 rfl ?_
  refine g_iconst X d_MO_vote_52 (v := (nI 0)) rfl ?_
  refine g_bipush X d_MO_vote_53 (v := (nI 11)) rfl ?_
  obtain ⟨r1, σ2, er1, hf⟩ := bd_some hf
  refine ca_MO_in X d_MO_vote_55 wl_MO_74 ⟨Nat.le_of_ble_eq_true rfl, Nat.le_of_ble_eq_true rfl⟩ (sum8 rfl) er1 ?_
  refine g_if_eq X d_MO_vote_58 66 (by decide) (fun q3 => ?_) (fun q3 => ?_)
  · have hf := ite_t q3 hf
    refine g_iconst X d_MO_vote_66 (v := (-1)) rfl ?_
    exact g_iret X d_MO_vote_67 hr hk9 hf
  · have hf := ite_f q3 hf
    refine g_iload X d_MO_vote_61 0 rfl ?_
    refine g_if_ne X d_MO_vote_63 68 (by decide) (fun q4 => ?_) (fun q4 => ?_)
    · have hf := ite_f q4 hf
      refine g_iload_n X d_MO_vote_68 3 rfl ?_
      refine g_bipush X d_MO_vote_69 (v := (-5)) rfl ?_
      refine g_ic_ne X d_MO_vote_71 87 (by decide) (fun q5 => ?_) (fun q5 => ?_)
      · have hf := ite_f q5 hf
        refine g_sub [1, 2, 3, 4, 5] rfl ?_
        exact w_MO_vote_87 X hr hk9 _ _ _ _ _ hf
      · have hf := ite_t q5 hf
        refine g_iload_n X d_MO_vote_74 4 rfl ?_
        refine g_bipush X d_MO_vote_75 (v := (-5)) rfl ?_
        refine g_ic_ne X d_MO_vote_77 100 (by decide) (fun q6 => ?_) (fun q6 => ?_)
        · have hf := ite_f q6 hf
          refine g_iconst X d_MO_vote_100 (v := (nI 1)) rfl ?_
          refine g_goto X d_MO_vote_101 105 (by decide) ?_
          refine g_sub [1, 2, 3, 4, 5] rfl ?_
          exact w_MO_vote_105 X hr hk9 _ _ _ _ _ _ hf
        · have hf := ite_t q6 hf
          refine g_iload X d_MO_vote_80 5 rfl ?_
          refine g_bipush X d_MO_vote_82 (v := (-5)) rfl ?_
          refine g_ic_ne X d_MO_vote_84 100 (by decide) (fun q7 => ?_) (fun q7 => ?_)
          · have hf := ite_f q7 hf
            refine g_iconst X d_MO_vote_100 (v := (nI 1)) rfl ?_
            refine g_goto X d_MO_vote_101 105 (by decide) ?_
            refine g_sub [1, 2, 3, 4, 5] rfl ?_
            exact w_MO_vote_105 X hr hk9 _ _ _ _ _ _ hf
          · have hf := ite_t q7 hf
            refine g_sub [1, 2, 3, 4, 5] rfl ?_
            exact w_MO_vote_87 X hr hk9 _ _ _ _ _ hf
    · have hf := ite_t q4 hf
      refine g_iconst X d_MO_vote_66 (v := (-1)) rfl ?_
      exact g_iret X d_MO_vote_67 hr hk9 hf
set_option maxRecDepth 10000 in
theorem w_MO_vote_28 {r : Int32} {σ' : Sg} (X : Cx Γ p (z_rm 2 43) s m args c c_MO_vote 12 "CaptionTalliesModel" 0 0) (hr : meth.sig.returnType = (some .int)) (hk9 : meth.locks = false)  (x1 : Int32) (x2 : Int32) (x3 : Int32) (x4 : Int32) (σ : Sg) (hf : f_MO_vote_28 x1 x2 x3 x4 σ = some (r, σ')) : G Γ p l e (z_rm 2 43) s m args below meth c 0 0 (MQ below (Qx Γ (some (.int r)) σ') args s 0 0 (fun q : Nat => Γ.2.2.2 ≤ q)) 12 28 [(0, .ref (Γ.2.2.1 112)), (1, .int x1), (2, .int x2), (3, .int x3), (4, .int x4)] [] σ := by
  rw [f_MO_vote_28] at hf
  refine g_iload X d_MO_vote_28 4 rfl ?_
  refine g_bipush X d_MO_vote_30 (v := (-5)) rfl ?_
  refine g_ic_eq X d_MO_vote_32 44 (by decide) (fun q1 => ?_) (fun q1 => ?_)
  · have hf := ite_t q1 hf
    refine g_iconst X d_MO_vote_44 (v := (nI 1)) rfl ?_
    refine g_goto X d_MO_vote_45 49 (by decide) ?_
    exact w_MO_vote_49 X hr hk9 _ _ _ _ _ _ hf
  · have hf := ite_f q1 hf
    refine g_aload_n X d_MO_vote_35 0 rfl ?_
    refine g_iload X d_MO_vote_36 4 rfl ?_
    obtain ⟨r2, σ3, er2, hf⟩ := bd_some hf
    refine ca_MO_is X d_MO_vote_38 wl_MO_96 ⟨Nat.le_of_ble_eq_true rfl, Nat.le_of_ble_eq_true rfl⟩ (sum8 rfl) er2 ?_
    refine g_if_eq X d_MO_vote_41 48 (by decide) (fun q4 => ?_) (fun q4 => ?_)
    · have hf := ite_t q4 hf
      refine g_iconst X d_MO_vote_48 (v := (nI 0)) rfl ?_
      exact w_MO_vote_49 X hr hk9 _ _ _ _ _ _ hf
    · have hf := ite_f q4 hf
      refine g_iconst X d_MO_vote_44 (v := (nI 1)) rfl ?_
      refine g_goto X d_MO_vote_45 49 (by decide) ?_
      exact w_MO_vote_49 X hr hk9 _ _ _ _ _ _ hf
set_option maxRecDepth 10000 in
theorem w_MO_vote_14 {r : Int32} {σ' : Sg} (X : Cx Γ p (z_rm 2 43) s m args c c_MO_vote 12 "CaptionTalliesModel" 0 0) (hr : meth.sig.returnType = (some .int)) (hk9 : meth.locks = false)  (x1 : Int32) (x2 : Int32) (x3 : Int32) (x4 : Int32) (σ : Sg) (hf : f_MO_vote_14 x1 x2 x3 x4 σ = some (r, σ')) : G Γ p l e (z_rm 2 43) s m args below meth c 0 0 (MQ below (Qx Γ (some (.int r)) σ') args s 0 0 (fun q : Nat => Γ.2.2.2 ≤ q)) 12 14 [(0, .ref (Γ.2.2.1 112)), (1, .int x1), (2, .int x2), (3, .int x3), (4, .int x4)] [] σ := by
  rw [f_MO_vote_14] at hf
  refine g_iload_n X d_MO_vote_14 3 rfl ?_
  refine g_bipush X d_MO_vote_15 (v := (-5)) rfl ?_
  refine g_ic_eq X d_MO_vote_17 28 (by decide) (fun q1 => ?_) (fun q1 => ?_)
  · have hf := ite_t q1 hf
    exact w_MO_vote_28 X hr hk9 _ _ _ _ _ hf
  · have hf := ite_f q1 hf
    refine g_aload_n X d_MO_vote_20 0 rfl ?_
    refine g_iload_n X d_MO_vote_21 3 rfl ?_
    obtain ⟨r2, σ3, er2, hf⟩ := bd_some hf
    refine ca_MO_is X d_MO_vote_22 wl_MO_96 ⟨Nat.le_of_ble_eq_true rfl, Nat.le_of_ble_eq_true rfl⟩ (sum8 rfl) er2 ?_
    refine g_if_eq X d_MO_vote_25 48 (by decide) (fun q4 => ?_) (fun q4 => ?_)
    · have hf := ite_t q4 hf
      refine g_iconst X d_MO_vote_48 (v := (nI 0)) rfl ?_
      exact w_MO_vote_49 X hr hk9 _ _ _ _ _ _ hf
    · have hf := ite_f q4 hf
      exact w_MO_vote_28 X hr hk9 _ _ _ _ _ hf
set_option maxRecDepth 10000 in
theorem c_MO_vote' {Γ : Gm} {l : Launch} {x1 : Int32} {x2 : Int32} {x3 : Int32} {x4 : Int32} {σ σ' : Sg} {r : Int32} (hf : f_MO_vote x1 x2 x3 x4 σ = some (r, σ')) : Ctr Γ l y_MO_vote c_MO_vote 12 (some .int) 2 43 [.ref (Γ.2.2.1 112), .int x1, .int x2, .int x3, .int x4] σ σ' (some (.int r)) := by
  refine Ctr.of (lv := [(0, .ref (Γ.2.2.1 112)), (1, .int x1), (2, .int x2), (3, .int x3), (4, .int x4)]) (by decide +kernel) (Nat.le_of_ble_eq_true rfl) rfl ?_
  intro p e s m args below meth c X hr hk9
  have X : Cx Γ p (z_rm 2 43) s m args c c_MO_vote 12 "CaptionTalliesModel" 0 0 := X
  rw [f_MO_vote] at hf
  refine g_iload_n X d_MO_vote_0 2 rfl ?_
  refine g_bipush X d_MO_vote_1 (v := (-5)) rfl ?_
  refine g_ic_eq X d_MO_vote_3 14 (by decide) (fun q1 => ?_) (fun q1 => ?_)
  · have hf := ite_t q1 hf
    exact w_MO_vote_14 X hr hk9 _ _ _ _ _ hf
  · have hf := ite_f q1 hf
    refine g_aload_n X d_MO_vote_6 0 rfl ?_
    refine g_iload_n X d_MO_vote_7 2 rfl ?_
    obtain ⟨r2, σ3, er2, hf⟩ := bd_some hf
    refine ca_MO_is X d_MO_vote_8 wl_MO_96 ⟨Nat.le_of_ble_eq_true rfl, Nat.le_of_ble_eq_true rfl⟩ (sum8 rfl) er2 ?_
    refine g_if_eq X d_MO_vote_11 48 (by decide) (fun q4 => ?_) (fun q4 => ?_)
    · have hf := ite_t q4 hf
      refine g_iconst X d_MO_vote_48 (v := (nI 0)) rfl ?_
      exact w_MO_vote_49 X hr hk9 _ _ _ _ _ _ hf
    · have hf := ite_f q4 hf
      exact w_MO_vote_14 X hr hk9 _ _ _ _ _ hf
section
variable {R : Room} {kc ks : Nat} {Q : State → Prop} {nL : Nat} {cc : ByteArray} {own : String} {pc : Nat} {lv lv' : List (Nat × Value)} {st : List Value}
theorem ca_MO_vote {x1 : Int32} {x2 : Int32} {x3 : Int32} {x4 : Int32} (X : Cx Γ p R s m args c cc nL own kc ks) {idx : Nat} (hd : decode cc pc = .ok (.invokevirtual idx, 3)) (hlk : Cond.methodLink own idx y_MO_vote ∈ lw_gt) (hR : 2 + 1 ≤ R.frames ∧ 8 + (12 + 11) + 43 ≤ R.locals) (hw : (st.map fun v => v.category).sum ≤ 8) {σ σ' : Sg} {r : Int32} (hf : f_MO_vote x1 x2 x3 x4 σ = some (r, σ')) (k : G Γ p l e R s m args below meth c kc ks Q nL (pc + 3) lv (.int r :: st) σ') : G Γ p l e R s m args below meth c kc ks Q nL pc lv (.int x4 :: .int x3 :: .int x2 :: .int x1 :: .ref (Γ.2.2.1 112) :: st) σ :=
  g_callV (As := [.int x1, .int x2, .int x3, .int x4]) (rest := st) X hd (c_MO_vote' hf) co_MO_vote hlk wn_MO_vote wse_MO_vote (by decide) kd_112 rfl hR rfl rfl hw k
end
set_option maxRecDepth 10000 in
theorem c_MO_score' {Γ : Gm} {l : Launch} {x1 : Int32} {x2 : Int32} {x3 : Int32} {σ σ' : Sg} {r : Int32} (hf : f_MO_score x1 x2 x3 σ = some (r, σ')) : Ctr Γ l y_MO_score c_MO_score 5 (some .int) 4 89 [.ref (Γ.2.2.1 112), .int x1, .int x2, .int x3] σ σ' (some (.int r)) := by
  refine Ctr.of (lv := [(0, .ref (Γ.2.2.1 112)), (1, .int x1), (2, .int x2), (3, .int x3)]) (by decide +kernel) (Nat.le_of_ble_eq_true rfl) rfl ?_
  intro p e s m args below meth c X hr hk9
  have X : Cx Γ p (z_rm 4 89) s m args c c_MO_score 5 "CaptionTalliesModel" 0 0 := X
  rw [f_MO_score] at hf
  refine g_iload_n X d_MO_score_0 1 rfl ?_
  refine g_iconst X d_MO_score_1 (v := (nI 0)) rfl ?_
  refine g_iconst X d_MO_score_2 (v := (nI 2)) rfl ?_
  obtain ⟨r1, σ2, er1, hf⟩ := bd_some hf
  refine ca_MO_in X d_MO_score_3 wl_MO_74 ⟨Nat.le_of_ble_eq_true rfl, Nat.le_of_ble_eq_true rfl⟩ (sum8 rfl) er1 ?_
  refine g_if_eq X d_MO_score_6 17 (by decide) (fun q3 => ?_) (fun q3 => ?_)
  · have hf := ite_t q3 hf
    refine g_iconst X d_MO_score_17 (v := (-1)) rfl ?_
    exact g_iret X d_MO_score_18 hr hk9 hf
  · have hf := ite_f q3 hf
    refine g_aload_n X d_MO_score_9 0 rfl ?_
    refine g_iload_n X d_MO_score_10 2 rfl ?_
    obtain ⟨r4, σ5, er4, hf⟩ := bd_some hf
    refine ca_MO_is X d_MO_score_11 wl_MO_96 ⟨Nat.le_of_ble_eq_true rfl, Nat.le_of_ble_eq_true rfl⟩ (sum8 rfl) er4 ?_
    refine g_if_ne X d_MO_score_14 19 (by decide) (fun q6 => ?_) (fun q6 => ?_)
    · have hf := ite_f q6 hf
      refine g_iload_n X d_MO_score_19 3 rfl ?_
      refine g_iconst X d_MO_score_20 (v := (nI 0)) rfl ?_
      refine g_bipush X d_MO_score_21 (v := (nI 10)) rfl ?_
      obtain ⟨r7, σ8, er7, hf⟩ := bd_some hf
      refine ca_MO_in X d_MO_score_23 wl_MO_74 ⟨Nat.le_of_ble_eq_true rfl, Nat.le_of_ble_eq_true rfl⟩ (sum8 rfl) er7 ?_
      refine g_if_ne X d_MO_score_26 32 (by decide) (fun q9 => ?_) (fun q9 => ?_)
      · have hf := ite_f q9 hf
        refine g_sipush X d_MO_score_32 (v := (nI 1325)) rfl ?_
        refine g_bipush X d_MO_score_35 (v := (nI 20)) rfl ?_
        refine g_iload_n X d_MO_score_37 1 rfl ?_
        refine g_imul X d_MO_score_38 ?_
        refine g_iadd X d_MO_score_39 ?_
        refine g_iload_n X d_MO_score_40 2 rfl ?_
        refine g_iadd X d_MO_score_41 ?_
        obtain ⟨v10, ev10, hf⟩ := lt_ex hf
        refine g_top ev10 ?_
        refine g_istore X d_MO_score_42 (lv' := [(4, .int v10), (0, .ref (Γ.2.2.1 112)), (1, .int x1), (2, .int x2), (3, .int x3)]) (Nat.le_of_ble_eq_true rfl) rfl ?_
        refine g_aload_n X d_MO_score_44 1 rfl ?_
        refine gf_112_0 X d_MO_score_45 wl_MO_7 ?_
        refine g_iload X d_MO_score_48 0 rfl ?_
        obtain ⟨b11, hf⟩ := gd_some hf
        refine g_iald X d_MO_score_50 kd_113 b11 ?_
        refine g_iload_n X d_MO_score_51 4 rfl ?_
        refine g_iconst X d_MO_score_52 (v := (nI 1)) rfl ?_
        refine g_iadd X d_MO_score_53 ?_
        refine g_ic_ne X d_MO_score_54 60 (by decide) (fun q12 => ?_) (fun q12 => ?_)
        · have hf := ite_f q12 hf
          refine g_aload_n X d_MO_score_60 1 rfl ?_
          obtain ⟨r13, σ14, er13, hf⟩ := bd_some hf
          refine ca_MO_record X d_MO_score_61 wl_MO_156 ⟨Nat.le_of_ble_eq_true rfl, Nat.le_of_ble_eq_true rfl⟩ (sum8 rfl) er13 ?_
          refine g_aload_n X d_MO_score_64 1 rfl ?_
          refine gf_112_0 X d_MO_score_65 wl_MO_7 ?_
          refine g_iload X d_MO_score_68 0 rfl ?_
          refine g_iload_n X d_MO_score_70 4 rfl ?_
          refine g_iconst X d_MO_score_71 (v := (nI 1)) rfl ?_
          refine g_iadd X d_MO_score_72 ?_
          obtain ⟨b15, hf⟩ := gd_some hf
          obtain ⟨σ16, eσ16, hf⟩ := lt_ex hf
          refine g_iast X d_MO_score_73 kd_113 b15 eσ16 ?_
          refine g_aload_n X d_MO_score_74 1 rfl ?_
          obtain ⟨r17, σ18, er17, hf⟩ := bd_some hf
          refine ca_MO_heads X d_MO_score_75 wl_MO_112 ⟨Nat.le_of_ble_eq_true rfl, Nat.le_of_ble_eq_true rfl⟩ (sum8 rfl) er17 ?_
          refine g_aload_n X d_MO_score_78 1 rfl ?_
          refine g_iload_n X d_MO_score_79 2 rfl ?_
          refine g_aload_n X d_MO_score_80 1 rfl ?_
          refine gf_112_7 X d_MO_score_81 wl_MO_22 ?_
          refine g_iload_n X d_MO_score_84 3 rfl ?_
          obtain ⟨b19, hf⟩ := gd_some hf
          refine g_iald X d_MO_score_85 kd_117 b19 ?_
          obtain ⟨r20, σ21, er20, hf⟩ := bd_some hf
          refine ca_MO_rank X d_MO_score_86 wl_MO_118 ⟨Nat.le_of_ble_eq_true rfl, Nat.le_of_ble_eq_true rfl⟩ (sum8 rfl) er20 ?_
          exact g_iret X d_MO_score_89 hr hk9 hf
        · have hf := ite_t q12 hf
          refine g_bipush X d_MO_score_57 (v := (-5)) rfl ?_
          exact g_iret X d_MO_score_59 hr hk9 hf
      · have hf := ite_t q9 hf
        refine g_bipush X d_MO_score_29 (v := (-2)) rfl ?_
        exact g_iret X d_MO_score_31 hr hk9 hf
    · have hf := ite_t q6 hf
      refine g_iconst X d_MO_score_17 (v := (-1)) rfl ?_
      exact g_iret X d_MO_score_18 hr hk9 hf
section
variable {R : Room} {kc ks : Nat} {Q : State → Prop} {nL : Nat} {cc : ByteArray} {own : String} {pc : Nat} {lv lv' : List (Nat × Value)} {st : List Value}
theorem ca_MO_score {x1 : Int32} {x2 : Int32} {x3 : Int32} (X : Cx Γ p R s m args c cc nL own kc ks) {idx : Nat} (hd : decode cc pc = .ok (.invokevirtual idx, 3)) (hlk : Cond.methodLink own idx y_MO_score ∈ lw_gt) (hR : 4 + 1 ≤ R.frames ∧ 8 + (5 + 11) + 89 ≤ R.locals) (hw : (st.map fun v => v.category).sum ≤ 8) {σ σ' : Sg} {r : Int32} (hf : f_MO_score x1 x2 x3 σ = some (r, σ')) (k : G Γ p l e R s m args below meth c kc ks Q nL (pc + 3) lv (.int r :: st) σ') : G Γ p l e R s m args below meth c kc ks Q nL pc lv (.int x3 :: .int x2 :: .int x1 :: .ref (Γ.2.2.1 112) :: st) σ :=
  g_callV (As := [.int x1, .int x2, .int x3]) (rest := st) X hd (c_MO_score' hf) co_MO_score hlk wn_MO_score wse_MO_score (by decide) kd_112 rfl hR rfl rfl hw k
end
set_option maxRecDepth 10000 in
theorem w_MO_set_21 {r : Int32} {σ' : Sg} (X : Cx Γ p (z_rm 1 22) s m args c c_MO_set 4 "CaptionTalliesModel" 0 0) (hr : meth.sig.returnType = (some .int)) (hk9 : meth.locks = false)  (x1 : Int32) (x2 : Int32) (t0 : Int32) (t1 : Int32) (t2 : Int32) (σ : Sg) (hf : f_MO_set_21 x1 x2 t0 t1 t2 σ = some (r, σ')) : G Γ p l e (z_rm 1 22) s m args below meth c 0 0 (MQ below (Qx Γ (some (.int r)) σ') args s 0 0 (fun q : Nat => Γ.2.2.2 ≤ q)) 4 21 [(0, .ref (Γ.2.2.1 112)), (1, .int x1), (2, .int x2)] [.int t0, .int t1, .int t2] σ := by
  rw [f_MO_set_21] at hf
  obtain ⟨r1, σ2, er1, hf⟩ := bd_some hf
  refine ca_MO_in X d_MO_set_21 wl_MO_74 ⟨Nat.le_of_ble_eq_true rfl, Nat.le_of_ble_eq_true rfl⟩ (sum8 rfl) er1 ?_
  refine g_if_ne X d_MO_set_24 30 (by decide) (fun q3 => ?_) (fun q3 => ?_)
  · have hf := ite_f q3 hf
    refine g_aload_n X d_MO_set_30 0 rfl ?_
    refine gf_112_0 X d_MO_set_31 wl_MO_7 ?_
    refine g_iconst X d_MO_set_34 (v := (nI 1)) rfl ?_
    refine g_iload_n X d_MO_set_35 1 rfl ?_
    refine g_iadd X d_MO_set_36 ?_
    obtain ⟨b4, hf⟩ := gd_some hf
    refine g_iald X d_MO_set_37 kd_113 b4 ?_
    obtain ⟨v5, ev5, hf⟩ := lt_ex hf
    refine g_top ev5 ?_
    refine g_istore_n X d_MO_set_38 rfl (lv' := [(3, .int v5), (0, .ref (Γ.2.2.1 112)), (1, .int x1), (2, .int x2)]) (Nat.le_of_ble_eq_true rfl) rfl ?_
    refine g_iload_n X d_MO_set_39 0 rfl ?_
    refine g_iload_n X d_MO_set_40 3 rfl ?_
    refine g_ic_ne X d_MO_set_41 47 (by decide) (fun q6 => ?_) (fun q6 => ?_)
    · have hf := ite_f q6 hf
      refine g_aload_n X d_MO_set_47 1 rfl ?_
      obtain ⟨r7, σ8, er7, hf⟩ := bd_some hf
      refine ca_MO_record X d_MO_set_48 wl_MO_156 ⟨Nat.le_of_ble_eq_true rfl, Nat.le_of_ble_eq_true rfl⟩ (sum8 rfl) er7 ?_
      refine g_aload_n X d_MO_set_51 1 rfl ?_
      refine gf_112_0 X d_MO_set_52 wl_MO_7 ?_
      refine g_iconst X d_MO_set_55 (v := (nI 1)) rfl ?_
      refine g_iload_n X d_MO_set_56 2 rfl ?_
      refine g_iadd X d_MO_set_57 ?_
      refine g_iload_n X d_MO_set_58 3 rfl ?_
      obtain ⟨b9, hf⟩ := gd_some hf
      obtain ⟨σ10, eσ10, hf⟩ := lt_ex hf
      refine g_iast X d_MO_set_59 kd_113 b9 eσ10 ?_
      refine g_iload_n X d_MO_set_60 0 rfl ?_
      exact g_iret X d_MO_set_61 hr hk9 hf
    · have hf := ite_t q6 hf
      refine g_bipush X d_MO_set_44 (v := (-5)) rfl ?_
      exact g_iret X d_MO_set_46 hr hk9 hf
  · have hf := ite_t q3 hf
    refine g_bipush X d_MO_set_27 (v := (-2)) rfl ?_
    exact g_iret X d_MO_set_29 hr hk9 hf
set_option maxRecDepth 10000 in
theorem c_MO_set' {Γ : Gm} {l : Launch} {x1 : Int32} {x2 : Int32} {σ σ' : Sg} {r : Int32} (hf : f_MO_set x1 x2 σ = some (r, σ')) : Ctr Γ l y_MO_set c_MO_set 4 (some .int) 1 22 [.ref (Γ.2.2.1 112), .int x1, .int x2] σ σ' (some (.int r)) := by
  refine Ctr.of (lv := [(0, .ref (Γ.2.2.1 112)), (1, .int x1), (2, .int x2)]) (by decide +kernel) (Nat.le_of_ble_eq_true rfl) rfl ?_
  intro p e s m args below meth c X hr hk9
  have X : Cx Γ p (z_rm 1 22) s m args c c_MO_set 4 "CaptionTalliesModel" 0 0 := X
  rw [f_MO_set] at hf
  refine g_iload_n X d_MO_set_0 1 rfl ?_
  refine g_iconst X d_MO_set_1 (v := (nI 0)) rfl ?_
  refine g_iconst X d_MO_set_2 (v := (nI 2)) rfl ?_
  obtain ⟨r1, σ2, er1, hf⟩ := bd_some hf
  refine ca_MO_in X d_MO_set_3 wl_MO_74 ⟨Nat.le_of_ble_eq_true rfl, Nat.le_of_ble_eq_true rfl⟩ (sum8 rfl) er1 ?_
  refine g_if_eq X d_MO_set_6 27 (by decide) (fun q3 => ?_) (fun q3 => ?_)
  · have hf := ite_t q3 hf
    refine g_bipush X d_MO_set_27 (v := (-2)) rfl ?_
    exact g_iret X d_MO_set_29 hr hk9 hf
  · have hf := ite_f q3 hf
    refine g_iload_n X d_MO_set_9 2 rfl ?_
    refine g_iconst X d_MO_set_10 (v := (nI 0)) rfl ?_
    refine g_iload_n X d_MO_set_11 1 rfl ?_
    refine g_iconst X d_MO_set_12 (v := (nI 1)) rfl ?_
    refine g_ic_ne X d_MO_set_13 20 (by decide) (fun q4 => ?_) (fun q4 => ?_)
    · have hf := ite_f q4 hf
      refine g_iconst X d_MO_set_20 (v := (nI 1)) rfl ?_
      exact w_MO_set_21 X hr hk9 _ _ _ _ _ _ hf
    · have hf := ite_t q4 hf
      refine g_iconst X d_MO_set_16 (v := (nI 5)) rfl ?_
      refine g_goto X d_MO_set_17 21 (by decide) ?_
      exact w_MO_set_21 X hr hk9 _ _ _ _ _ _ hf
section
variable {R : Room} {kc ks : Nat} {Q : State → Prop} {nL : Nat} {cc : ByteArray} {own : String} {pc : Nat} {lv lv' : List (Nat × Value)} {st : List Value}
theorem ca_MO_set {x1 : Int32} {x2 : Int32} (X : Cx Γ p R s m args c cc nL own kc ks) {idx : Nat} (hd : decode cc pc = .ok (.invokevirtual idx, 3)) (hlk : Cond.methodLink own idx y_MO_set ∈ lw_gt) (hR : 1 + 1 ≤ R.frames ∧ 8 + (4 + 11) + 22 ≤ R.locals) (hw : (st.map fun v => v.category).sum ≤ 8) {σ σ' : Sg} {r : Int32} (hf : f_MO_set x1 x2 σ = some (r, σ')) (k : G Γ p l e R s m args below meth c kc ks Q nL (pc + 3) lv (.int r :: st) σ') : G Γ p l e R s m args below meth c kc ks Q nL pc lv (.int x2 :: .int x1 :: .ref (Γ.2.2.1 112) :: st) σ :=
  g_callV (As := [.int x1, .int x2]) (rest := st) X hd (c_MO_set' hf) co_MO_set hlk wn_MO_set wse_MO_set (by decide) kd_112 rfl hR rfl rfl hw k
end
end ZM3
