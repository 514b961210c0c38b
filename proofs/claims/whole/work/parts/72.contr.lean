section ZM2
variable {Γ : Gm} {p : Program} {l : Launch} {e : Env} {s : State} {m : MethodId} {args : Array Value} {below : List Frame} {meth : Method} {c : Code}
set_option maxRecDepth 10000 in
theorem c_CT_round' {Γ : Gm} {l : Launch} {x1 : Int32} {x2 : Int32} {σ σ' : Sg} {r : Int32} (hf : f_CT_round x1 x2 σ = some (r, σ')) : Ctr Γ l y_CT_round c_CT_round 3 (some .int) 6 137 [.ref (Γ.2.2.1 111), .int x1, .int x2] σ σ' (some (.int r)) := by
  refine Ctr.of (lv := [(0, .ref (Γ.2.2.1 111)), (1, .int x1), (2, .int x2)]) (by decide +kernel) (Nat.le_of_ble_eq_true rfl) rfl ?_
  intro p e s m args below meth c X hr hk9
  have X : Cx Γ p (z_rm 6 137) s m args c c_CT_round 3 "CaptionTallies" 0 0 := X
  rw [f_CT_round] at hf
  refine g_iload_n X d_CT_round_0 1 rfl ?_
  refine g_if_lt X d_CT_round_1 12 (by decide) (fun q1 => ?_) (fun q1 => ?_)
  · have hf := ite_t q1 hf
    refine g_bipush X d_CT_round_12 (v := (-2)) rfl ?_
    exact g_iret X d_CT_round_14 hr hk9 hf
  · have hf := ite_f q1 hf
    refine g_iload_n X d_CT_round_4 2 rfl ?_
    refine g_iconst X d_CT_round_5 (v := (nI 3)) rfl ?_
    obtain ⟨r2, σ3, er2, hf⟩ := bd_some hf
    refine ca_CT_isIndex X d_CT_round_6 wl_CT_86 ⟨Nat.le_of_ble_eq_true rfl, Nat.le_of_ble_eq_true rfl⟩ (sum8 rfl) er2 ?_
    refine g_if_ne X d_CT_round_9 15 (by decide) (fun q4 => ?_) (fun q4 => ?_)
    · have hf := ite_f q4 hf
      refine g_aload_n X d_CT_round_15 0 rfl ?_
      obtain ⟨r5, σ6, er5, hf⟩ := bd_some hf
      refine ca_CT_tally X d_CT_round_16 wl_CT_215 ⟨Nat.le_of_ble_eq_true rfl, Nat.le_of_ble_eq_true rfl⟩ (sum8 rfl) er5 ?_
      refine g_iload_n X d_CT_round_19 1 rfl ?_
      refine g_aload_n X d_CT_round_20 0 rfl ?_
      refine gf_111_8 X d_CT_round_21 wl_CT_61 ?_
      obtain ⟨r7, σ8, er7, hf⟩ := bd_some hf
      refine ca_RO_number X d_CT_round_24 wl_CT_260 ⟨Nat.le_of_ble_eq_true rfl, Nat.le_of_ble_eq_true rfl⟩ (sum8 rfl) er7 ?_
      refine g_ic_lt X d_CT_round_27 33 (by decide) (fun q9 => ?_) (fun q9 => ?_)
      · have hf := ite_t q9 hf
        refine g_iload_n X d_CT_round_33 2 rfl ?_
        by_cases q10 : x2 = (nI 0)
        · have hf := ite_t q10 hf
          refine g_ls (off := 26) X d_CT_round_34 60 (by decide) (by first | (rw [q10]; done) | (rw [q10]; rfl)) (by decide) ?_
          refine g_aload_n X d_CT_round_60 0 rfl ?_
          refine gf_111_8 X d_CT_round_61 wl_CT_61 ?_
          refine g_iload_n X d_CT_round_64 1 rfl ?_
          obtain ⟨r11, σ12, er11, hf⟩ := bd_some hf
          refine ca_RO_headOut X d_CT_round_65 wl_CT_263 ⟨Nat.le_of_ble_eq_true rfl, Nat.le_of_ble_eq_true rfl⟩ (sum8 rfl) er11 ?_
          exact g_iret X d_CT_round_68 hr hk9 hf
        have hf := ite_f q10 hf
        by_cases q13 : x2 = (nI 1)
        · have hf := ite_t q13 hf
          refine g_ls (off := 35) X d_CT_round_34 69 (by decide) (by first | (rw [q13]; done) | (rw [q13]; rfl)) (by decide) ?_
          refine g_aload_n X d_CT_round_69 0 rfl ?_
          refine gf_111_8 X d_CT_round_70 wl_CT_61 ?_
          refine g_iload_n X d_CT_round_73 1 rfl ?_
          obtain ⟨r14, σ15, er14, hf⟩ := bd_some hf
          refine ca_RO_ballotsOfHeadOut X d_CT_round_74 wl_CT_266 ⟨Nat.le_of_ble_eq_true rfl, Nat.le_of_ble_eq_true rfl⟩ (sum8 rfl) er14 ?_
          exact g_iret X d_CT_round_77 hr hk9 hf
        have hf := ite_f q13 hf
        refine g_ls (off := 44) X d_CT_round_34 78 (by decide) ((lv_osw q10 rfl).trans ((lv_osw q13 rfl).trans rfl)) (by decide) ?_
        refine g_aload_n X d_CT_round_78 0 rfl ?_
        refine gf_111_8 X d_CT_round_79 wl_CT_61 ?_
        refine g_iload_n X d_CT_round_82 1 rfl ?_
        obtain ⟨r16, σ17, er16, hf⟩ := bd_some hf
        refine ca_RO_ballotsForNone X d_CT_round_83 wl_CT_269 ⟨Nat.le_of_ble_eq_true rfl, Nat.le_of_ble_eq_true rfl⟩ (sum8 rfl) er16 ?_
        exact g_iret X d_CT_round_86 hr hk9 hf
      · have hf := ite_f q9 hf
        refine g_bipush X d_CT_round_30 (v := (-5)) rfl ?_
        exact g_iret X d_CT_round_32 hr hk9 hf
    · have hf := ite_t q4 hf
      refine g_bipush X d_CT_round_12 (v := (-2)) rfl ?_
      exact g_iret X d_CT_round_14 hr hk9 hf
section
variable {R : Room} {kc ks : Nat} {Q : State → Prop} {nL : Nat} {cc : ByteArray} {own : String} {pc : Nat} {lv lv' : List (Nat × Value)} {st : List Value}
theorem ca_CT_round {x1 : Int32} {x2 : Int32} (X : Cx Γ p R s m args c cc nL own kc ks) {idx : Nat} (hd : decode cc pc = .ok (.invokevirtual idx, 3)) (hlk : Cond.methodLink own idx y_CT_round ∈ lw_gt) (hR : 6 + 1 ≤ R.frames ∧ 8 + (3 + 11) + 137 ≤ R.locals) (hw : (st.map fun v => v.category).sum ≤ 8) {σ σ' : Sg} {r : Int32} (hf : f_CT_round x1 x2 σ = some (r, σ')) (k : G Γ p l e R s m args below meth c kc ks Q nL (pc + 3) lv (.int r :: st) σ') : G Γ p l e R s m args below meth c kc ks Q nL pc lv (.int x2 :: .int x1 :: .ref (Γ.2.2.1 111) :: st) σ :=
  g_callV (As := [.int x1, .int x2]) (rest := st) X hd (c_CT_round' hf) co_CT_round hlk wn_CT_round wse_CT_round (by decide) kd_111 rfl hR rfl rfl hw k
end
set_option maxRecDepth 10000 in
theorem w_DI_fillLine_72 {K42 : Int32 → Int32 → Int32 → Int32 → Int32 → Sg → Option (Int32 × Sg)} {r : Int32} {σ' : Sg} (X : Cx Γ p (z_rm 3 64) s m args c c_DI_fillLine 11 "CaptionTallies$Distances" 0 0) (hr : meth.sig.returnType = none) (hk9 : meth.locks = false) (hK42 : ∀ (x3 : Int32) (x5 : Int32) (x6 : Int32) (x7 : Int32) (x8 : Int32) (σ : Sg), K42 x3 x5 x6 x7 x8 σ = some (r, σ') → G Γ p l e (z_rm 3 64) s m args below meth c 0 0 (MQ below (Qx Γ none σ') args s 0 0 (fun q : Nat => Γ.2.2.2 ≤ q)) 11 42 [(0, .ref (Γ.2.2.1 108)), (1, .ref (Γ.2.2.1 0)), (3, .int x3), (5, .int x5), (6, .int x6), (7, .int x7), (8, .int x8)] [] σ)  (x3 : Int32) (x5 : Int32) (x6 : Int32) (x8 : Int32) (t0 : Int32) (σ : Sg) (hf : f_DI_fillLine_72 K42 x3 x5 x6 x8 t0 σ = some (r, σ')) : G Γ p l e (z_rm 3 64) s m args below meth c 0 0 (MQ below (Qx Γ none σ') args s 0 0 (fun q : Nat => Γ.2.2.2 ≤ q)) 11 72 [(0, .ref (Γ.2.2.1 108)), (1, .ref (Γ.2.2.1 0)), (3, .int x3), (5, .int x5), (6, .int x6), (8, .int x8)] [.int t0] σ := by
  rw [f_DI_fillLine_72] at hf
  refine g_istore X d_DI_fillLine_72 (lv' := [(9, .int t0), (0, .ref (Γ.2.2.1 108)), (1, .ref (Γ.2.2.1 0)), (3, .int x3), (5, .int x5), (6, .int x6), (8, .int x8)]) (Nat.le_of_ble_eq_true rfl) rfl ?_
  refine g_aload_n X d_DI_fillLine_74 1 rfl ?_
  refine gf_108_0 X d_DI_fillLine_75 wl_DI_9 ?_
  refine g_iload X d_DI_fillLine_78 6 rfl ?_
  obtain ⟨b1, hf⟩ := gd_some hf
  refine g_iald X d_DI_fillLine_80 kd_109 b1 ?_
  obtain ⟨v2, ev2, hf⟩ := lt_ex hf
  refine g_top ev2 ?_
  refine g_istore X d_DI_fillLine_81 (lv' := [(7, .int v2), (9, .int t0), (0, .ref (Γ.2.2.1 108)), (1, .ref (Γ.2.2.1 0)), (3, .int x3), (5, .int x5), (6, .int x6), (8, .int x8)]) (Nat.le_of_ble_eq_true rfl) rfl ?_
  refine g_iconst X d_DI_fillLine_83 (v := (nI 1)) rfl ?_
  refine g_aload_n X d_DI_fillLine_84 2 rfl ?_
  refine gf_108_0 X d_DI_fillLine_85 wl_DI_9 ?_
  refine g_iload X d_DI_fillLine_88 7 rfl ?_
  refine g_iconst X d_DI_fillLine_90 (v := (nI 1)) rfl ?_
  refine g_isub X d_DI_fillLine_91 ?_
  obtain ⟨b3, hf⟩ := gd_some hf
  refine g_iald X d_DI_fillLine_92 kd_109 b3 ?_
  refine g_aload_n X d_DI_fillLine_93 2 rfl ?_
  refine gf_108_0 X d_DI_fillLine_94 wl_DI_9 ?_
  refine g_iload X d_DI_fillLine_97 7 rfl ?_
  obtain ⟨b4, hf⟩ := gd_some hf
  refine g_iald X d_DI_fillLine_99 kd_109 b4 ?_
  refine g_mmin X d_DI_fillLine_100 wl_DI_24 wm_min_s wi_MA wm_min_c ⟨Nat.le_of_ble_eq_true rfl, Nat.le_of_ble_eq_true rfl⟩ ?_
  refine g_iadd X d_DI_fillLine_103 ?_
  obtain ⟨v5, ev5, hf⟩ := lt_ex hf
  refine g_top ev5 ?_
  refine g_istore X d_DI_fillLine_104 (lv' := [(10, .int v5), (7, .int v2), (9, .int t0), (0, .ref (Γ.2.2.1 108)), (1, .ref (Γ.2.2.1 0)), (3, .int x3), (5, .int x5), (6, .int x6), (8, .int x8)]) (Nat.le_of_ble_eq_true rfl) rfl ?_
  refine g_aload_n X d_DI_fillLine_106 3 rfl ?_
  refine gf_108_0 X d_DI_fillLine_107 wl_DI_9 ?_
  refine g_iload X d_DI_fillLine_110 8 rfl ?_
  refine g_iload X d_DI_fillLine_112 2 rfl ?_
  refine g_iload X d_DI_fillLine_114 0 rfl ?_
  refine g_mmin X d_DI_fillLine_116 wl_DI_24 wm_min_s wi_MA wm_min_c ⟨Nat.le_of_ble_eq_true rfl, Nat.le_of_ble_eq_true rfl⟩ ?_
  obtain ⟨b6, hf⟩ := gd_some hf
  obtain ⟨σ7, eσ7, hf⟩ := lt_ex hf
  refine g_iast X d_DI_fillLine_119 kd_109 b6 eσ7 ?_
  refine g_iinc X d_DI_fillLine_120 (j := 8) (lv' := [(8, .int (x8 + (nI 1))), (10, .int v5), (7, .int v2), (9, .int t0), (0, .ref (Γ.2.2.1 108)), (1, .ref (Γ.2.2.1 0)), (3, .int x3), (5, .int x5), (6, .int x6)]) rfl rfl (Nat.le_of_ble_eq_true rfl) rfl ?_
  refine g_goto X d_DI_fillLine_123 42 (by decide) ?_
  refine g_sub [4, 5, 6, 7, 8, 2, 0] rfl ?_
  exact hK42 _ _ _ _ _ _ hf
set_option maxRecDepth 10000 in
theorem w_DI_fillLine_42 {r : Int32} {σ' : Sg} (X : Cx Γ p (z_rm 3 64) s m args c c_DI_fillLine 11 "CaptionTallies$Distances" 0 0) (hr : meth.sig.returnType = none) (hk9 : meth.locks = false) : ∀ (n9 : Nat) (x3 : Int32) (x5 : Int32) (x6 : Int32) (x7 : Int32) (x8 : Int32) (σ : Sg), f_DI_fillLine_42 n9 x3 x5 x6 x7 x8 σ = some (r, σ') → G Γ p l e (z_rm 3 64) s m args below meth c 0 0 (MQ below (Qx Γ none σ') args s 0 0 (fun q : Nat => Γ.2.2.2 ≤ q)) 11 42 [(0, .ref (Γ.2.2.1 108)), (1, .ref (Γ.2.2.1 0)), (3, .int x3), (5, .int x5), (6, .int x6), (7, .int x7), (8, .int x8)] [] σ := by
  intro n9
  induction n9 with
  | zero => intro x3 x5 x6 x7 x8 σ hf; cases hf
  | succ n9 ih =>
    intro x3 x5 x6 x7 x8 σ hf
    rw [f_DI_fillLine_42] at hf
    refine g_iload X d_DI_fillLine_42 6 rfl ?_
    refine g_iload X d_DI_fillLine_44 3 rfl ?_
    refine g_ic_gt X d_DI_fillLine_46 126 (by decide) (fun q1 => ?_) (fun q1 => ?_)
    · have hf := ite_t q1 hf
      exact g_vret X d_DI_fillLine_126 hr hk9 hf
    · have hf := ite_f q1 hf
      refine g_iload X d_DI_fillLine_49 4 rfl ?_
      refine g_aload_n X d_DI_fillLine_51 1 rfl ?_
      refine g_iload_n X d_DI_fillLine_52 2 rfl ?_
      refine g_iload X d_DI_fillLine_53 6 rfl ?_
      refine g_iconst X d_DI_fillLine_55 (v := (nI 1)) rfl ?_
      refine g_isub X d_DI_fillLine_56 ?_
      obtain ⟨r2, σ3, er2, hf⟩ := bd_some hf
      refine ca_ST_coreLetter X d_DI_fillLine_57 wl_DI_38 ⟨Nat.le_of_ble_eq_true rfl, Nat.le_of_ble_eq_true rfl⟩ (sum8 rfl) er2 ?_
      refine g_ic_ne X d_DI_fillLine_60 68 (by decide) (fun q4 => ?_) (fun q4 => ?_)
      · have hf := ite_f q4 hf
        refine g_iload X d_DI_fillLine_68 5 rfl ?_
        refine g_iconst X d_DI_fillLine_70 (v := (nI 1)) rfl ?_
        refine g_iadd X d_DI_fillLine_71 ?_
        refine g_sub [0, 1, 2, 3, 4, 6] rfl ?_
        exact w_DI_fillLine_72 X hr hk9 ih _ _ _ _ _ _ hf
      · have hf := ite_t q4 hf
        refine g_iload X d_DI_fillLine_63 5 rfl ?_
        refine g_goto X d_DI_fillLine_65 72 (by decide) ?_
        refine g_sub [0, 1, 2, 3, 4, 6] rfl ?_
        exact w_DI_fillLine_72 X hr hk9 ih _ _ _ _ _ _ hf
set_option maxRecDepth 10000 in
theorem c_DI_fillLine' {Γ : Gm} {l : Launch} {x2 : Int32} {x3 : Int32} {x4 : Int32} {σ σ' : Sg} {r : Int32} (hf : f_DI_fillLine x2 x3 x4 σ = some (r, σ')) : Ctr Γ l y_DI_fillLine c_DI_fillLine 11 none 3 64 [.ref (Γ.2.2.1 108), .ref (Γ.2.2.1 0), .int x2, .int x3, .int x4] σ σ' none := by
  refine Ctr.of (lv := [(0, .ref (Γ.2.2.1 108)), (1, .ref (Γ.2.2.1 0)), (2, .int x2), (3, .int x3), (4, .int x4)]) (by decide +kernel) (Nat.le_of_ble_eq_true rfl) rfl ?_
  intro p e s m args below meth c X hr hk9
  have X : Cx Γ p (z_rm 3 64) s m args c c_DI_fillLine 11 "CaptionTallies$Distances" 0 0 := X
  rw [f_DI_fillLine] at hf
  refine g_aload_n X d_DI_fillLine_0 1 rfl ?_
  refine g_iload_n X d_DI_fillLine_1 3 rfl ?_
  obtain ⟨r1, σ2, er1, hf⟩ := bd_some hf
  refine ca_ST_coreLengthOf X d_DI_fillLine_2 wl_DI_18 ⟨Nat.le_of_ble_eq_true rfl, Nat.le_of_ble_eq_true rfl⟩ (sum8 rfl) er1 ?_
  refine g_bipush X d_DI_fillLine_5 (v := (nI 60)) rfl ?_
  refine g_mmin X d_DI_fillLine_7 wl_DI_24 wm_min_s wi_MA wm_min_c ⟨Nat.le_of_ble_eq_true rfl, Nat.le_of_ble_eq_true rfl⟩ ?_
  obtain ⟨v3, ev3, hf⟩ := lt_ex hf
  refine g_top ev3 ?_
  refine g_istore X d_DI_fillLine_10 (lv' := [(5, .int v3), (0, .ref (Γ.2.2.1 108)), (1, .ref (Γ.2.2.1 0)), (2, .int x2), (3, .int x3), (4, .int x4)]) (Nat.le_of_ble_eq_true rfl) rfl ?_
  refine g_aload_n X d_DI_fillLine_12 2 rfl ?_
  refine g_iload_n X d_DI_fillLine_13 3 rfl ?_
  refine g_iload X d_DI_fillLine_14 5 rfl ?_
  refine g_iconst X d_DI_fillLine_16 (v := (nI 1)) rfl ?_
  refine g_isub X d_DI_fillLine_17 ?_
  obtain ⟨r4, σ5, er4, hf⟩ := bd_some hf
  refine ca_ST_coreLetter X d_DI_fillLine_18 wl_DI_38 ⟨Nat.le_of_ble_eq_true rfl, Nat.le_of_ble_eq_true rfl⟩ (sum8 rfl) er4 ?_
  refine g_istore X d_DI_fillLine_21 (lv' := [(6, .int r4), (5, .int v3), (0, .ref (Γ.2.2.1 108)), (1, .ref (Γ.2.2.1 0)), (2, .int x2), (3, .int x3), (4, .int x4)]) (Nat.le_of_ble_eq_true rfl) rfl ?_
  refine g_aload_n X d_DI_fillLine_23 2 rfl ?_
  refine gf_108_0 X d_DI_fillLine_24 wl_DI_9 ?_
  refine g_iconst X d_DI_fillLine_27 (v := (nI 0)) rfl ?_
  obtain ⟨b6, hf⟩ := gd_some hf
  refine g_iald X d_DI_fillLine_28 kd_109 b6 ?_
  obtain ⟨v7, ev7, hf⟩ := lt_ex hf
  refine g_top ev7 ?_
  refine g_istore X d_DI_fillLine_29 (lv' := [(7, .int v7), (6, .int r4), (5, .int v3), (0, .ref (Γ.2.2.1 108)), (1, .ref (Γ.2.2.1 0)), (2, .int x2), (3, .int x3), (4, .int x4)]) (Nat.le_of_ble_eq_true rfl) rfl ?_
  refine g_aload_n X d_DI_fillLine_31 3 rfl ?_
  refine gf_108_0 X d_DI_fillLine_32 wl_DI_9 ?_
  refine g_iconst X d_DI_fillLine_35 (v := (nI 0)) rfl ?_
  refine g_iload X d_DI_fillLine_36 7 rfl ?_
  obtain ⟨b8, hf⟩ := gd_some hf
  obtain ⟨σ9, eσ9, hf⟩ := lt_ex hf
  refine g_iast X d_DI_fillLine_38 kd_109 b8 eσ9 ?_
  refine g_iconst X d_DI_fillLine_39 (v := (nI 1)) rfl ?_
  refine g_istore X d_DI_fillLine_40 (lv' := [(8, .int (nI 1)), (7, .int v7), (6, .int r4), (5, .int v3), (0, .ref (Γ.2.2.1 108)), (1, .ref (Γ.2.2.1 0)), (2, .int x2), (3, .int x3), (4, .int x4)]) (Nat.le_of_ble_eq_true rfl) rfl ?_
  refine g_sub [4, 5, 7, 3, 2, 1, 0] rfl ?_
  exact w_DI_fillLine_42 X hr hk9 _ _ _ _ _ _ _ hf
section
variable {R : Room} {kc ks : Nat} {Q : State → Prop} {nL : Nat} {cc : ByteArray} {own : String} {pc : Nat} {lv lv' : List (Nat × Value)} {st : List Value}
theorem ca_DI_fillLine {x2 : Int32} {x3 : Int32} {x4 : Int32} (X : Cx Γ p R s m args c cc nL own kc ks) {idx : Nat} (hd : decode cc pc = .ok (.invokevirtual idx, 3)) (hlk : Cond.methodLink own idx y_DI_fillLine ∈ lw_gt) (hR : 3 + 1 ≤ R.frames ∧ 8 + (11 + 11) + 64 ≤ R.locals) (hw : (st.map fun v => v.category).sum ≤ 8) {σ σ' : Sg} {r : Int32} (hf : f_DI_fillLine x2 x3 x4 σ = some (r, σ')) (k : G Γ p l e R s m args below meth c kc ks Q nL (pc + 3) lv (st) σ') : G Γ p l e R s m args below meth c kc ks Q nL pc lv (.int x4 :: .int x3 :: .int x2 :: .ref (Γ.2.2.1 0) :: .ref (Γ.2.2.1 108) :: st) σ :=
  g_callV (As := [.ref (Γ.2.2.1 0), .int x2, .int x3, .int x4]) (rest := st) X hd (c_DI_fillLine' hf) co_DI_fillLine hlk wn_DI_fillLine wse_DI_fillLine (by decide) kd_108 rfl hR rfl rfl hw k
end
set_option maxRecDepth 10000 in
theorem w_DI_between_52 {r : Int32} {σ' : Sg} (X : Cx Γ p (z_rm 4 94) s m args c c_DI_between 7 "CaptionTallies$Distances" 0 0) (hr : meth.sig.returnType = (some .int)) (hk9 : meth.locks = false) : ∀ (n9 : Nat) (x2 : Int32) (x3 : Int32) (x4 : Int32) (x5 : Int32) (x6 : Int32) (σ : Sg), f_DI_between_52 n9 x2 x3 x4 x5 x6 σ = some (r, σ') → G Γ p l e (z_rm 4 94) s m args below meth c 0 0 (MQ below (Qx Γ (some (.int r)) σ') args s 0 0 (fun q : Nat => Γ.2.2.2 ≤ q)) 7 52 [(0, .ref (Γ.2.2.1 108)), (1, .ref (Γ.2.2.1 0)), (2, .int x2), (3, .int x3), (4, .int x4), (5, .int x5), (6, .int x6)] [] σ := by
  intro n9
  induction n9 with
  | zero => intro x2 x3 x4 x5 x6 σ hf; cases hf
  | succ n9 ih =>
    intro x2 x3 x4 x5 x6 σ hf
    rw [f_DI_between_52] at hf
    refine g_iload X d_DI_between_52 6 rfl ?_
    refine g_iload X d_DI_between_54 4 rfl ?_
    refine g_ic_gt X d_DI_between_56 74 (by decide) (fun q1 => ?_) (fun q1 => ?_)
    · have hf := ite_t q1 hf
      refine g_aload_n X d_DI_between_74 0 rfl ?_
      refine gf_108_0 X d_DI_between_75 wl_DI_9 ?_
      refine g_iload X d_DI_between_78 5 rfl ?_
      obtain ⟨r2, σ3, er2, hf⟩ := bd_some hf
      refine can_CT_at X d_DI_between_80 wl_DI_34 ⟨Nat.le_of_ble_eq_true rfl, Nat.le_of_ble_eq_true rfl⟩ (sum8 rfl) kd_109 er2 ?_
      exact g_iret X d_DI_between_83 hr hk9 hf
    · have hf := ite_f q1 hf
      refine g_aload_n X d_DI_between_59 0 rfl ?_
      refine g_aload_n X d_DI_between_60 1 rfl ?_
      refine g_iload_n X d_DI_between_61 2 rfl ?_
      refine g_iload_n X d_DI_between_62 3 rfl ?_
      refine g_iload X d_DI_between_63 6 rfl ?_
      obtain ⟨r4, σ5, er4, hf⟩ := bd_some hf
      refine ca_DI_fillLine X d_DI_between_65 wl_DI_30 ⟨Nat.le_of_ble_eq_true rfl, Nat.le_of_ble_eq_true rfl⟩ (sum8 rfl) er4 ?_
      refine g_iinc X d_DI_between_68 (j := 6) (lv' := [(6, .int (x6 + (nI 1))), (0, .ref (Γ.2.2.1 108)), (1, .ref (Γ.2.2.1 0)), (2, .int x2), (3, .int x3), (4, .int x4), (5, .int x5)]) rfl rfl (Nat.le_of_ble_eq_true rfl) rfl ?_
      refine g_goto X d_DI_between_71 52 (by decide) ?_
      refine g_sub [1, 2, 3, 4, 5, 6, 0] rfl ?_
      exact ih _ _ _ _ _ _ hf
set_option maxRecDepth 10000 in
theorem w_DI_between_27 {r : Int32} {σ' : Sg} (X : Cx Γ p (z_rm 4 94) s m args c c_DI_between 7 "CaptionTallies$Distances" 0 0) (hr : meth.sig.returnType = (some .int)) (hk9 : meth.locks = false) : ∀ (n9 : Nat) (x2 : Int32) (x3 : Int32) (x4 : Int32) (x5 : Int32) (x6 : Int32) (σ : Sg), f_DI_between_27 n9 x2 x3 x4 x5 x6 σ = some (r, σ') → G Γ p l e (z_rm 4 94) s m args below meth c 0 0 (MQ below (Qx Γ (some (.int r)) σ') args s 0 0 (fun q : Nat => Γ.2.2.2 ≤ q)) 7 27 [(0, .ref (Γ.2.2.1 108)), (1, .ref (Γ.2.2.1 0)), (2, .int x2), (3, .int x3), (4, .int x4), (5, .int x5), (6, .int x6)] [] σ := by
  intro n9
  induction n9 with
  | zero => intro x2 x3 x4 x5 x6 σ hf; cases hf
  | succ n9 ih =>
    intro x2 x3 x4 x5 x6 σ hf
    rw [f_DI_between_27] at hf
    refine g_iload X d_DI_between_27 6 rfl ?_
    refine g_iload X d_DI_between_29 5 rfl ?_
    refine g_ic_gt X d_DI_between_31 49 (by decide) (fun q1 => ?_) (fun q1 => ?_)
    · have hf := ite_t q1 hf
      refine g_iconst X d_DI_between_49 (v := (nI 1)) rfl ?_
      refine g_istore X d_DI_between_50 (lv' := [(6, .int (nI 1)), (0, .ref (Γ.2.2.1 108)), (1, .ref (Γ.2.2.1 0)), (2, .int x2), (3, .int x3), (4, .int x4), (5, .int x5)]) (Nat.le_of_ble_eq_true rfl) rfl ?_
      refine g_sub [1, 2, 3, 4, 5, 6, 0] rfl ?_
      exact w_DI_between_52 X hr hk9 _ _ _ _ _ _ _ hf
    · have hf := ite_f q1 hf
      refine g_aload_n X d_DI_between_34 0 rfl ?_
      refine gf_108_0 X d_DI_between_35 wl_DI_9 ?_
      refine g_iload X d_DI_between_38 6 rfl ?_
      refine g_iload X d_DI_between_40 6 rfl ?_
      obtain ⟨b2, hf⟩ := gd_some hf
      obtain ⟨σ3, eσ3, hf⟩ := lt_ex hf
      refine g_iast X d_DI_between_42 kd_109 b2 eσ3 ?_
      refine g_iinc X d_DI_between_43 (j := 6) (lv' := [(6, .int (x6 + (nI 1))), (0, .ref (Γ.2.2.1 108)), (1, .ref (Γ.2.2.1 0)), (2, .int x2), (3, .int x3), (4, .int x4), (5, .int x5)]) rfl rfl (Nat.le_of_ble_eq_true rfl) rfl ?_
      refine g_goto X d_DI_between_46 27 (by decide) ?_
      refine g_sub [1, 2, 3, 4, 5, 6, 0] rfl ?_
      exact ih _ _ _ _ _ _ hf
set_option maxRecDepth 10000 in
theorem c_DI_between' {Γ : Gm} {l : Launch} {x2 : Int32} {x3 : Int32} {σ σ' : Sg} {r : Int32} (hf : f_DI_between x2 x3 σ = some (r, σ')) : Ctr Γ l y_DI_between c_DI_between 7 (some .int) 4 94 [.ref (Γ.2.2.1 108), .ref (Γ.2.2.1 0), .int x2, .int x3] σ σ' (some (.int r)) := by
  refine Ctr.of (lv := [(0, .ref (Γ.2.2.1 108)), (1, .ref (Γ.2.2.1 0)), (2, .int x2), (3, .int x3)]) (by decide +kernel) (Nat.le_of_ble_eq_true rfl) rfl ?_
  intro p e s m args below meth c X hr hk9
  have X : Cx Γ p (z_rm 4 94) s m args c c_DI_between 7 "CaptionTallies$Distances" 0 0 := X
  rw [f_DI_between] at hf
  refine g_aload_n X d_DI_between_0 1 rfl ?_
  refine g_iload_n X d_DI_between_1 2 rfl ?_
  obtain ⟨r1, σ2, er1, hf⟩ := bd_some hf
  refine ca_ST_coreLengthOf X d_DI_between_2 wl_DI_18 ⟨Nat.le_of_ble_eq_true rfl, Nat.le_of_ble_eq_true rfl⟩ (sum8 rfl) er1 ?_
  refine g_bipush X d_DI_between_5 (v := (nI 60)) rfl ?_
  refine g_mmin X d_DI_between_7 wl_DI_24 wm_min_s wi_MA wm_min_c ⟨Nat.le_of_ble_eq_true rfl, Nat.le_of_ble_eq_true rfl⟩ ?_
  obtain ⟨v3, ev3, hf⟩ := lt_ex hf
  refine g_top ev3 ?_
  refine g_istore X d_DI_between_10 (lv' := [(4, .int v3), (0, .ref (Γ.2.2.1 108)), (1, .ref (Γ.2.2.1 0)), (2, .int x2), (3, .int x3)]) (Nat.le_of_ble_eq_true rfl) rfl ?_
  refine g_aload_n X d_DI_between_12 2 rfl ?_
  refine g_iload_n X d_DI_between_13 4 rfl ?_
  obtain ⟨r4, σ5, er4, hf⟩ := bd_some hf
  refine ca_ST_coreLengthOf X d_DI_between_14 wl_DI_18 ⟨Nat.le_of_ble_eq_true rfl, Nat.le_of_ble_eq_true rfl⟩ (sum8 rfl) er4 ?_
  refine g_bipush X d_DI_between_17 (v := (nI 60)) rfl ?_
  refine g_mmin X d_DI_between_19 wl_DI_24 wm_min_s wi_MA wm_min_c ⟨Nat.le_of_ble_eq_true rfl, Nat.le_of_ble_eq_true rfl⟩ ?_
  obtain ⟨v6, ev6, hf⟩ := lt_ex hf
  refine g_top ev6 ?_
  refine g_istore X d_DI_between_22 (lv' := [(5, .int v6), (4, .int v3), (0, .ref (Γ.2.2.1 108)), (1, .ref (Γ.2.2.1 0)), (2, .int x2), (3, .int x3)]) (Nat.le_of_ble_eq_true rfl) rfl ?_
  refine g_iconst X d_DI_between_24 (v := (nI 0)) rfl ?_
  refine g_istore X d_DI_between_25 (lv' := [(6, .int (nI 0)), (5, .int v6), (4, .int v3), (0, .ref (Γ.2.2.1 108)), (1, .ref (Γ.2.2.1 0)), (2, .int x2), (3, .int x3)]) (Nat.le_of_ble_eq_true rfl) rfl ?_
  refine g_sub [3, 4, 5, 6, 2, 1, 0] rfl ?_
  exact w_DI_between_27 X hr hk9 _ _ _ _ _ _ _ hf
section
variable {R : Room} {kc ks : Nat} {Q : State → Prop} {nL : Nat} {cc : ByteArray} {own : String} {pc : Nat} {lv lv' : List (Nat × Value)} {st : List Value}
theorem ca_DI_between {x2 : Int32} {x3 : Int32} (X : Cx Γ p R s m args c cc nL own kc ks) {idx : Nat} (hd : decode cc pc = .ok (.invokevirtual idx, 3)) (hlk : Cond.methodLink own idx y_DI_between ∈ lw_gt) (hR : 4 + 1 ≤ R.frames ∧ 8 + (7 + 11) + 94 ≤ R.locals) (hw : (st.map fun v => v.category).sum ≤ 8) {σ σ' : Sg} {r : Int32} (hf : f_DI_between x2 x3 σ = some (r, σ')) (k : G Γ p l e R s m args below meth c kc ks Q nL (pc + 3) lv (.int r :: st) σ') : G Γ p l e R s m args below meth c kc ks Q nL pc lv (.int x3 :: .int x2 :: .ref (Γ.2.2.1 0) :: .ref (Γ.2.2.1 108) :: st) σ :=
  g_callV (As := [.ref (Γ.2.2.1 0), .int x2, .int x3]) (rest := st) X hd (c_DI_between' hf) co_DI_between hlk wn_DI_between wse_DI_between (by decide) kd_108 rfl hR rfl rfl hw k
end
set_option maxRecDepth 10000 in
theorem c_CT_distance' {Γ : Gm} {l : Launch} {x1 : Int32} {x2 : Int32} {σ σ' : Sg} {r : Int32} (hf : f_CT_distance x1 x2 σ = some (r, σ')) : Ctr Γ l y_CT_distance c_CT_distance 3 (some .int) 5 120 [.ref (Γ.2.2.1 111), .int x1, .int x2] σ σ' (some (.int r)) := by
  refine Ctr.of (lv := [(0, .ref (Γ.2.2.1 111)), (1, .int x1), (2, .int x2)]) (by decide +kernel) (Nat.le_of_ble_eq_true rfl) rfl ?_
  intro p e s m args below meth c X hr hk9
  have X : Cx Γ p (z_rm 5 120) s m args c c_CT_distance 3 "CaptionTallies" 0 0 := X
  rw [f_CT_distance] at hf
  refine g_aload_n X d_CT_distance_0 0 rfl ?_
  refine gf_111_1 X d_CT_distance_1 wl_CT_19 ?_
  refine g_iload_n X d_CT_distance_4 1 rfl ?_
  obtain ⟨r1, σ2, er1, hf⟩ := bd_some hf
  refine ca_ST_isIn X d_CT_distance_5 wl_CT_105 ⟨Nat.le_of_ble_eq_true rfl, Nat.le_of_ble_eq_true rfl⟩ (sum8 rfl) er1 ?_
  refine g_if_eq X d_CT_distance_8 22 (by decide) (fun q3 => ?_) (fun q3 => ?_)
  · have hf := ite_t q3 hf
    refine g_iconst X d_CT_distance_22 (v := (-1)) rfl ?_
    exact g_iret X d_CT_distance_23 hr hk9 hf
  · have hf := ite_f q3 hf
    refine g_aload_n X d_CT_distance_11 0 rfl ?_
    refine gf_111_1 X d_CT_distance_12 wl_CT_19 ?_
    refine g_iload_n X d_CT_distance_15 2 rfl ?_
    obtain ⟨r4, σ5, er4, hf⟩ := bd_some hf
    refine ca_ST_isIn X d_CT_distance_16 wl_CT_105 ⟨Nat.le_of_ble_eq_true rfl, Nat.le_of_ble_eq_true rfl⟩ (sum8 rfl) er4 ?_
    refine g_if_ne X d_CT_distance_19 24 (by decide) (fun q6 => ?_) (fun q6 => ?_)
    · have hf := ite_f q6 hf
      refine g_aload_n X d_CT_distance_24 0 rfl ?_
      refine gf_111_11 X d_CT_distance_25 wl_CT_82 ?_
      refine g_aload_n X d_CT_distance_28 0 rfl ?_
      refine gf_111_1 X d_CT_distance_29 wl_CT_19 ?_
      refine g_iload_n X d_CT_distance_32 1 rfl ?_
      refine g_iload_n X d_CT_distance_33 2 rfl ?_
      obtain ⟨r7, σ8, er7, hf⟩ := bd_some hf
      refine ca_DI_between X d_CT_distance_34 wl_CT_272 ⟨Nat.le_of_ble_eq_true rfl, Nat.le_of_ble_eq_true rfl⟩ (sum8 rfl) er7 ?_
      exact g_iret X d_CT_distance_37 hr hk9 hf
    · have hf := ite_t q6 hf
      refine g_iconst X d_CT_distance_22 (v := (-1)) rfl ?_
      exact g_iret X d_CT_distance_23 hr hk9 hf
section
variable {R : Room} {kc ks : Nat} {Q : State → Prop} {nL : Nat} {cc : ByteArray} {own : String} {pc : Nat} {lv lv' : List (Nat × Value)} {st : List Value}
theorem ca_CT_distance {x1 : Int32} {x2 : Int32} (X : Cx Γ p R s m args c cc nL own kc ks) {idx : Nat} (hd : decode cc pc = .ok (.invokevirtual idx, 3)) (hlk : Cond.methodLink own idx y_CT_distance ∈ lw_gt) (hR : 5 + 1 ≤ R.frames ∧ 8 + (3 + 11) + 120 ≤ R.locals) (hw : (st.map fun v => v.category).sum ≤ 8) {σ σ' : Sg} {r : Int32} (hf : f_CT_distance x1 x2 σ = some (r, σ')) (k : G Γ p l e R s m args below meth c kc ks Q nL (pc + 3) lv (.int r :: st) σ') : G Γ p l e R s m args below meth c kc ks Q nL pc lv (.int x2 :: .int x1 :: .ref (Γ.2.2.1 111) :: st) σ :=
  g_callV (As := [.int x1, .int x2]) (rest := st) X hd (c_CT_distance' hf) co_CT_distance hlk wn_CT_distance wse_CT_distance (by decide) kd_111 rfl hR rfl rfl hw k
end
set_option maxRecDepth 10000 in
theorem c_DI_areApart' {Γ : Gm} {l : Launch} {x1 : Int32} {x2 : Int32} {σ σ' : Sg} {r : Int32} (hf : f_DI_areApart x1 x2 σ = some (r, σ')) : Ctr Γ l y_DI_areApart c_DI_areApart 5 (some .boolean) 2 42 [.ref (Γ.2.2.1 82), .int x1, .int x2] σ σ' (some (.int r)) := by
  refine Ctr.of (lv := [(0, .ref (Γ.2.2.1 82)), (1, .int x1), (2, .int x2)]) (by decide +kernel) (Nat.le_of_ble_eq_true rfl) rfl ?_
  intro p e s m args below meth c X hr hk9
  have X : Cx Γ p (z_rm 2 42) s m args c c_DI_areApart 5 "CaptionTallies$Distances" 0 0 := X
  rw [f_DI_areApart] at hf
  refine g_aload_n X d_DI_areApart_0 0 rfl ?_
  refine g_iload_n X d_DI_areApart_1 1 rfl ?_
  obtain ⟨r1, σ2, er1, hf⟩ := bd_some hf
  refine ca_GR_headOf X d_DI_areApart_2 wl_DI_59 ⟨Nat.le_of_ble_eq_true rfl, Nat.le_of_ble_eq_true rfl⟩ (sum8 rfl) er1 ?_
  refine g_istore_n X d_DI_areApart_5 rfl (lv' := [(3, .int r1), (0, .ref (Γ.2.2.1 82)), (1, .int x1), (2, .int x2)]) (Nat.le_of_ble_eq_true rfl) rfl ?_
  refine g_aload_n X d_DI_areApart_6 1 rfl ?_
  refine g_iload_n X d_DI_areApart_7 3 rfl ?_
  obtain ⟨r3, σ4, er3, hf⟩ := bd_some hf
  refine ca_GR_headOf X d_DI_areApart_8 wl_DI_59 ⟨Nat.le_of_ble_eq_true rfl, Nat.le_of_ble_eq_true rfl⟩ (sum8 rfl) er3 ?_
  refine g_istore X d_DI_areApart_11 (lv' := [(4, .int r3), (3, .int r1), (0, .ref (Γ.2.2.1 82)), (1, .int x1), (2, .int x2)]) (Nat.le_of_ble_eq_true rfl) rfl ?_
  refine g_iload_n X d_DI_areApart_13 1 rfl ?_
  refine g_bipush X d_DI_areApart_14 (v := (-5)) rfl ?_
  refine g_ic_eq X d_DI_areApart_16 36 (by decide) (fun q5 => ?_) (fun q5 => ?_)
  · have hf := ite_t q5 hf
    refine g_iconst X d_DI_areApart_36 (v := (nI 0)) rfl ?_
    exact g_zret X d_DI_areApart_37 hr hk9 rfl hf
  · have hf := ite_f q5 hf
    refine g_iload X d_DI_areApart_19 0 rfl ?_
    refine g_bipush X d_DI_areApart_21 (v := (-5)) rfl ?_
    refine g_ic_eq X d_DI_areApart_23 36 (by decide) (fun q6 => ?_) (fun q6 => ?_)
    · have hf := ite_t q6 hf
      refine g_iconst X d_DI_areApart_36 (v := (nI 0)) rfl ?_
      exact g_zret X d_DI_areApart_37 hr hk9 rfl hf
    · have hf := ite_f q6 hf
      refine g_iload_n X d_DI_areApart_26 1 rfl ?_
      refine g_iload X d_DI_areApart_27 0 rfl ?_
      refine g_ic_eq X d_DI_areApart_29 36 (by decide) (fun q7 => ?_) (fun q7 => ?_)
      · have hf := ite_t q7 hf
        refine g_iconst X d_DI_areApart_36 (v := (nI 0)) rfl ?_
        exact g_zret X d_DI_areApart_37 hr hk9 rfl hf
      · have hf := ite_f q7 hf
        refine g_iconst X d_DI_areApart_32 (v := (nI 1)) rfl ?_
        refine g_goto X d_DI_areApart_33 37 (by decide) ?_
        exact g_zret X d_DI_areApart_37 hr hk9 rfl hf
section
variable {R : Room} {kc ks : Nat} {Q : State → Prop} {nL : Nat} {cc : ByteArray} {own : String} {pc : Nat} {lv lv' : List (Nat × Value)} {st : List Value}
theorem ca_DI_areApart {x1 : Int32} {x2 : Int32} (X : Cx Γ p R s m args c cc nL own kc ks) {idx : Nat} (hd : decode cc pc = .ok (.invokestatic idx, 3)) (hlk : Cond.methodLink own idx y_DI_areApart ∈ lw_gt) (hR : 2 + 1 ≤ R.frames ∧ 8 + (5 + 11) + 42 ≤ R.locals) (hw : (st.map fun v => v.category).sum ≤ 8) {σ σ' : Sg} {r : Int32} (hf : f_DI_areApart x1 x2 σ = some (r, σ')) (k : G Γ p l e R s m args below meth c kc ks Q nL (pc + 3) lv (.int r :: st) σ') : G Γ p l e R s m args below meth c kc ks Q nL pc lv (.int x2 :: .int x1 :: .ref (Γ.2.2.1 82) :: st) σ :=
  g_callS (As := [.ref (Γ.2.2.1 82), .int x1, .int x2]) (rest := st) X hd (c_DI_areApart' hf) co_DI_areApart hlk wn_DI_areApart hR rfl rfl hw k
theorem can_DI_areApart {x1 : Int32} {x2 : Int32} (X : Cx Γ p R s m args c cc nL own kc ks) {idx : Nat} (hd : decode cc pc = .ok (.invokestatic idx, 3)) (hlk : (own, idx, y_DI_areApart) ∈ z_nests) (hR : 2 + 1 ≤ R.frames ∧ 8 + (5 + 11) + 42 ≤ R.locals) (hw : (st.map fun v => v.category).sum ≤ 8) {σ σ' : Sg} {r : Int32} (hf : f_DI_areApart x1 x2 σ = some (r, σ')) (k : G Γ p l e R s m args below meth c kc ks Q nL (pc + 3) lv (.int r :: st) σ') : G Γ p l e R s m args below meth c kc ks Q nL pc lv (.int x2 :: .int x1 :: .ref (Γ.2.2.1 82) :: st) σ :=
  g_callSN (As := [.ref (Γ.2.2.1 82), .int x1, .int x2]) (rest := st) X hd (c_DI_areApart' hf) co_DI_areApart hlk wn_DI_areApart hR rfl rfl hw k
end
set_option maxRecDepth 10000 in
theorem c_DI_mayBeNear' {Γ : Gm} {l : Launch} {x1 : Int32} {x2 : Int32} {σ σ' : Sg} {r : Int32} (hf : f_DI_mayBeNear x1 x2 σ = some (r, σ')) : Ctr Γ l y_DI_mayBeNear c_DI_mayBeNear 3 (some .boolean) 2 42 [.ref (Γ.2.2.1 0), .int x1, .int x2] σ σ' (some (.int r)) := by
  refine Ctr.of (lv := [(0, .ref (Γ.2.2.1 0)), (1, .int x1), (2, .int x2)]) (by decide +kernel) (Nat.le_of_ble_eq_true rfl) rfl ?_
  intro p e s m args below meth c X hr hk9
  have X : Cx Γ p (z_rm 2 42) s m args c c_DI_mayBeNear 3 "CaptionTallies$Distances" 0 0 := X
  rw [f_DI_mayBeNear] at hf
  refine g_aload_n X d_DI_mayBeNear_0 0 rfl ?_
  refine g_iload_n X d_DI_mayBeNear_1 1 rfl ?_
  obtain ⟨r1, σ2, er1, hf⟩ := bd_some hf
  refine ca_ST_coreLengthOf X d_DI_mayBeNear_2 wl_DI_18 ⟨Nat.le_of_ble_eq_true rfl, Nat.le_of_ble_eq_true rfl⟩ (sum8 rfl) er1 ?_
  refine g_aload_n X d_DI_mayBeNear_5 0 rfl ?_
  refine g_iload_n X d_DI_mayBeNear_6 2 rfl ?_
  obtain ⟨r3, σ4, er3, hf⟩ := bd_some hf
  refine ca_ST_coreLengthOf X d_DI_mayBeNear_7 wl_DI_18 ⟨Nat.le_of_ble_eq_true rfl, Nat.le_of_ble_eq_true rfl⟩ (sum8 rfl) er3 ?_
  refine g_isub X d_DI_mayBeNear_10 ?_
  refine g_mabs X d_DI_mayBeNear_11 wl_DI_64 wm_abs_s wi_MA wm_abs_c ⟨Nat.le_of_ble_eq_true rfl, Nat.le_of_ble_eq_true rfl⟩ ?_
  refine g_iconst X d_DI_mayBeNear_14 (v := (nI 3)) rfl ?_
  refine g_ic_gt X d_DI_mayBeNear_15 22 (by decide) (fun q5 => ?_) (fun q5 => ?_)
  · have hf := ite_t q5 hf
    refine g_iconst X d_DI_mayBeNear_22 (v := (nI 0)) rfl ?_
    exact g_zret X d_DI_mayBeNear_23 hr hk9 rfl hf
  · have hf := ite_f q5 hf
    refine g_iconst X d_DI_mayBeNear_18 (v := (nI 1)) rfl ?_
    refine g_goto X d_DI_mayBeNear_19 23 (by decide) ?_
    exact g_zret X d_DI_mayBeNear_23 hr hk9 rfl hf
section
variable {R : Room} {kc ks : Nat} {Q : State → Prop} {nL : Nat} {cc : ByteArray} {own : String} {pc : Nat} {lv lv' : List (Nat × Value)} {st : List Value}
theorem ca_DI_mayBeNear {x1 : Int32} {x2 : Int32} (X : Cx Γ p R s m args c cc nL own kc ks) {idx : Nat} (hd : decode cc pc = .ok (.invokestatic idx, 3)) (hlk : Cond.methodLink own idx y_DI_mayBeNear ∈ lw_gt) (hR : 2 + 1 ≤ R.frames ∧ 8 + (3 + 11) + 42 ≤ R.locals) (hw : (st.map fun v => v.category).sum ≤ 8) {σ σ' : Sg} {r : Int32} (hf : f_DI_mayBeNear x1 x2 σ = some (r, σ')) (k : G Γ p l e R s m args below meth c kc ks Q nL (pc + 3) lv (.int r :: st) σ') : G Γ p l e R s m args below meth c kc ks Q nL pc lv (.int x2 :: .int x1 :: .ref (Γ.2.2.1 0) :: st) σ :=
  g_callS (As := [.ref (Γ.2.2.1 0), .int x1, .int x2]) (rest := st) X hd (c_DI_mayBeNear' hf) co_DI_mayBeNear hlk wn_DI_mayBeNear hR rfl rfl hw k
theorem can_DI_mayBeNear {x1 : Int32} {x2 : Int32} (X : Cx Γ p R s m args c cc nL own kc ks) {idx : Nat} (hd : decode cc pc = .ok (.invokestatic idx, 3)) (hlk : (own, idx, y_DI_mayBeNear) ∈ z_nests) (hR : 2 + 1 ≤ R.frames ∧ 8 + (3 + 11) + 42 ≤ R.locals) (hw : (st.map fun v => v.category).sum ≤ 8) {σ σ' : Sg} {r : Int32} (hf : f_DI_mayBeNear x1 x2 σ = some (r, σ')) (k : G Γ p l e R s m args below meth c kc ks Q nL (pc + 3) lv (.int r :: st) σ') : G Γ p l e R s m args below meth c kc ks Q nL pc lv (.int x2 :: .int x1 :: .ref (Γ.2.2.1 0) :: st) σ :=
  g_callSN (As := [.ref (Γ.2.2.1 0), .int x1, .int x2]) (rest := st) X hd (c_DI_mayBeNear' hf) co_DI_mayBeNear hlk wn_DI_mayBeNear hR rfl rfl hw k
end
set_option maxRecDepth 10000 in
theorem w_DI_fill_22 {K11 : Int32 → Sg → Option (Int32 × Sg)} {r : Int32} {σ' : Sg} (X : Cx Γ p (z_rm 5 120) s m args c c_DI_fill 5 "CaptionTallies$Distances" 0 0) (hr : meth.sig.returnType = none) (hk9 : meth.locks = false) (hK11 : ∀ (x3 : Int32) (σ : Sg), K11 x3 σ = some (r, σ') → G Γ p l e (z_rm 5 120) s m args below meth c 0 0 (MQ below (Qx Γ none σ') args s 0 0 (fun q : Nat => Γ.2.2.2 ≤ q)) 5 11 [(0, .ref (Γ.2.2.1 108)), (1, .ref (Γ.2.2.1 0)), (2, .ref (Γ.2.2.1 82)), (3, .int x3)] [] σ) : ∀ (n9 : Nat) (x3 : Int32) (x4 : Int32) (σ : Sg), f_DI_fill_22 K11 n9 x3 x4 σ = some (r, σ') → G Γ p l e (z_rm 5 120) s m args below meth c 0 0 (MQ below (Qx Γ none σ') args s 0 0 (fun q : Nat => Γ.2.2.2 ≤ q)) 5 22 [(0, .ref (Γ.2.2.1 108)), (1, .ref (Γ.2.2.1 0)), (2, .ref (Γ.2.2.1 82)), (3, .int x3), (4, .int x4)] [] σ := by
  intro n9
  induction n9 with
  | zero => intro x3 x4 σ hf; cases hf
  | succ n9 ih =>
    intro x3 x4 σ hf
    rw [f_DI_fill_22] at hf
    refine g_iload X d_DI_fill_22 4 rfl ?_
    refine g_bipush X d_DI_fill_24 (v := (nI 20)) rfl ?_
    refine g_ic_ge X d_DI_fill_26 75 (by decide) (fun q1 => ?_) (fun q1 => ?_)
    · have hf := ite_t q1 hf
      refine g_iinc X d_DI_fill_75 (j := 3) (lv' := [(3, .int (x3 + (nI 1))), (0, .ref (Γ.2.2.1 108)), (1, .ref (Γ.2.2.1 0)), (2, .ref (Γ.2.2.1 82)), (4, .int x4)]) rfl rfl (Nat.le_of_ble_eq_true rfl) rfl ?_
      refine g_goto X d_DI_fill_78 11 (by decide) ?_
      refine g_sub [1, 2, 3, 0] rfl ?_
      exact hK11 _ _ hf
    · have hf := ite_f q1 hf
      refine g_aload_n X d_DI_fill_29 2 rfl ?_
      refine g_iload_n X d_DI_fill_30 3 rfl ?_
      refine g_iload X d_DI_fill_31 4 rfl ?_
      obtain ⟨r2, σ3, er2, hf⟩ := bd_some hf
      refine ca_DI_areApart X d_DI_fill_33 wl_DI_47 ⟨Nat.le_of_ble_eq_true rfl, Nat.le_of_ble_eq_true rfl⟩ (sum8 rfl) er2 ?_
      refine g_if_eq X d_DI_fill_36 69 (by decide) (fun q4 => ?_) (fun q4 => ?_)
      · have hf := ite_t q4 hf
        refine g_iinc X d_DI_fill_69 (j := 4) (lv' := [(4, .int (x4 + (nI 1))), (0, .ref (Γ.2.2.1 108)), (1, .ref (Γ.2.2.1 0)), (2, .ref (Γ.2.2.1 82)), (3, .int x3)]) rfl rfl (Nat.le_of_ble_eq_true rfl) rfl ?_
        refine g_goto X d_DI_fill_72 22 (by decide) ?_
        refine g_sub [1, 2, 3, 4, 0] rfl ?_
        exact ih _ _ _ hf
      · have hf := ite_f q4 hf
        refine g_aload_n X d_DI_fill_39 1 rfl ?_
        refine g_iload_n X d_DI_fill_40 3 rfl ?_
        refine g_iload X d_DI_fill_41 4 rfl ?_
        obtain ⟨r5, σ6, er5, hf⟩ := bd_some hf
        refine ca_DI_mayBeNear X d_DI_fill_43 wl_DI_51 ⟨Nat.le_of_ble_eq_true rfl, Nat.le_of_ble_eq_true rfl⟩ (sum8 rfl) er5 ?_
        refine g_if_eq X d_DI_fill_46 69 (by decide) (fun q7 => ?_) (fun q7 => ?_)
        · have hf := ite_t q7 hf
          refine g_iinc X d_DI_fill_69 (j := 4) (lv' := [(4, .int (x4 + (nI 1))), (0, .ref (Γ.2.2.1 108)), (1, .ref (Γ.2.2.1 0)), (2, .ref (Γ.2.2.1 82)), (3, .int x3)]) rfl rfl (Nat.le_of_ble_eq_true rfl) rfl ?_
          refine g_goto X d_DI_fill_72 22 (by decide) ?_
          refine g_sub [1, 2, 3, 4, 0] rfl ?_
          exact ih _ _ _ hf
        · have hf := ite_f q7 hf
          refine g_aload_n X d_DI_fill_49 0 rfl ?_
          refine gf_108_1 X d_DI_fill_50 wl_DI_15 ?_
          refine g_iload_n X d_DI_fill_53 3 rfl ?_
          refine g_bipush X d_DI_fill_54 (v := (nI 20)) rfl ?_
          refine g_imul X d_DI_fill_56 ?_
          refine g_iload X d_DI_fill_57 4 rfl ?_
          refine g_iadd X d_DI_fill_59 ?_
          refine g_aload_n X d_DI_fill_60 0 rfl ?_
          refine g_aload_n X d_DI_fill_61 1 rfl ?_
          refine g_iload_n X d_DI_fill_62 3 rfl ?_
          refine g_iload X d_DI_fill_63 4 rfl ?_
          obtain ⟨r8, σ9, er8, hf⟩ := bd_some hf
          refine ca_DI_between X d_DI_fill_65 wl_DI_55 ⟨Nat.le_of_ble_eq_true rfl, Nat.le_of_ble_eq_true rfl⟩ (sum8 rfl) er8 ?_
          obtain ⟨b10, hf⟩ := gd_some hf
          obtain ⟨σ11, eσ11, hf⟩ := lt_ex hf
          refine g_iast X d_DI_fill_68 kd_110 b10 eσ11 ?_
          refine g_iinc X d_DI_fill_69 (j := 4) (lv' := [(4, .int (x4 + (nI 1))), (0, .ref (Γ.2.2.1 108)), (1, .ref (Γ.2.2.1 0)), (2, .ref (Γ.2.2.1 82)), (3, .int x3)]) rfl rfl (Nat.le_of_ble_eq_true rfl) rfl ?_
          refine g_goto X d_DI_fill_72 22 (by decide) ?_
          refine g_sub [1, 2, 3, 4, 0] rfl ?_
          exact ih _ _ _ hf
set_option maxRecDepth 10000 in
theorem w_DI_fill_11 {r : Int32} {σ' : Sg} (X : Cx Γ p (z_rm 5 120) s m args c c_DI_fill 5 "CaptionTallies$Distances" 0 0) (hr : meth.sig.returnType = none) (hk9 : meth.locks = false) : ∀ (n9 : Nat) (x3 : Int32) (σ : Sg), f_DI_fill_11 n9 x3 σ = some (r, σ') → G Γ p l e (z_rm 5 120) s m args below meth c 0 0 (MQ below (Qx Γ none σ') args s 0 0 (fun q : Nat => Γ.2.2.2 ≤ q)) 5 11 [(0, .ref (Γ.2.2.1 108)), (1, .ref (Γ.2.2.1 0)), (2, .ref (Γ.2.2.1 82)), (3, .int x3)] [] σ := by
  intro n9
  induction n9 with
  | zero => intro x3 σ hf; cases hf
  | succ n9 ih =>
    intro x3 σ hf
    rw [f_DI_fill_11] at hf
    refine g_iload_n X d_DI_fill_11 3 rfl ?_
    refine g_bipush X d_DI_fill_12 (v := (nI 20)) rfl ?_
    refine g_ic_ge X d_DI_fill_14 81 (by decide) (fun q1 => ?_) (fun q1 => ?_)
    · have hf := ite_t q1 hf
      exact g_vret X d_DI_fill_81 hr hk9 hf
    · have hf := ite_f q1 hf
      refine g_iload_n X d_DI_fill_17 3 rfl ?_
      refine g_iconst X d_DI_fill_18 (v := (nI 1)) rfl ?_
      refine g_iadd X d_DI_fill_19 ?_
      obtain ⟨v2, ev2, hf⟩ := lt_ex hf
      refine g_top ev2 ?_
      refine g_istore X d_DI_fill_20 (lv' := [(4, .int v2), (0, .ref (Γ.2.2.1 108)), (1, .ref (Γ.2.2.1 0)), (2, .ref (Γ.2.2.1 82)), (3, .int x3)]) (Nat.le_of_ble_eq_true rfl) rfl ?_
      refine g_sub [1, 2, 3, 4, 0] rfl ?_
      exact w_DI_fill_22 X hr hk9 ih _ _ _ _ hf
set_option maxRecDepth 10000 in
theorem c_DI_fill' {Γ : Gm} {l : Launch} {σ σ' : Sg} {r : Int32} (hf : f_DI_fill σ = some (r, σ')) : Ctr Γ l y_DI_fill c_DI_fill 5 none 5 120 [.ref (Γ.2.2.1 108), .ref (Γ.2.2.1 0), .ref (Γ.2.2.1 82)] σ σ' none := by
  refine Ctr.of (lv := [(0, .ref (Γ.2.2.1 108)), (1, .ref (Γ.2.2.1 0)), (2, .ref (Γ.2.2.1 82))]) (by decide +kernel) (Nat.le_of_ble_eq_true rfl) rfl ?_
  intro p e s m args below meth c X hr hk9
  have X : Cx Γ p (z_rm 5 120) s m args c c_DI_fill 5 "CaptionTallies$Distances" 0 0 := X
  rw [f_DI_fill] at hf
  refine g_aload_n X d_DI_fill_0 0 rfl ?_
  refine gf_108_1 X d_DI_fill_1 wl_DI_15 ?_
  refine g_bipush X d_DI_fill_4 (v := (-5)) rfl ?_
  obtain ⟨r1, σ2, er1, hf⟩ := bd_some hf
  refine ca_AR_fill X d_DI_fill_6 wl_DI_41 ⟨Nat.le_of_ble_eq_true rfl, Nat.le_of_ble_eq_true rfl⟩ (sum8 rfl) kd_110 er1 ?_
  refine g_iconst X d_DI_fill_9 (v := (nI 0)) rfl ?_
  refine g_istore_n X d_DI_fill_10 rfl (lv' := [(3, .int (nI 0)), (0, .ref (Γ.2.2.1 108)), (1, .ref (Γ.2.2.1 0)), (2, .ref (Γ.2.2.1 82))]) (Nat.le_of_ble_eq_true rfl) rfl ?_
  refine g_sub [1, 2, 3, 0] rfl ?_
  exact w_DI_fill_11 X hr hk9 _ _ _ hf
section
variable {R : Room} {kc ks : Nat} {Q : State → Prop} {nL : Nat} {cc : ByteArray} {own : String} {pc : Nat} {lv lv' : List (Nat × Value)} {st : List Value}
theorem ca_DI_fill (X : Cx Γ p R s m args c cc nL own kc ks) {idx : Nat} (hd : decode cc pc = .ok (.invokevirtual idx, 3)) (hlk : Cond.methodLink own idx y_DI_fill ∈ lw_gt) (hR : 5 + 1 ≤ R.frames ∧ 8 + (5 + 11) + 120 ≤ R.locals) (hw : (st.map fun v => v.category).sum ≤ 8) {σ σ' : Sg} {r : Int32} (hf : f_DI_fill σ = some (r, σ')) (k : G Γ p l e R s m args below meth c kc ks Q nL (pc + 3) lv (st) σ') : G Γ p l e R s m args below meth c kc ks Q nL pc lv (.ref (Γ.2.2.1 82) :: .ref (Γ.2.2.1 0) :: .ref (Γ.2.2.1 108) :: st) σ :=
  g_callV (As := [.ref (Γ.2.2.1 0), .ref (Γ.2.2.1 82)]) (rest := st) X hd (c_DI_fill' hf) co_DI_fill hlk wn_DI_fill wse_DI_fill (by decide) kd_108 rfl hR rfl rfl hw k
end
set_option maxRecDepth 10000 in
theorem c_DI_ofPair' {Γ : Gm} {l : Launch} {x1 : Int32} {σ σ' : Sg} {r : Int32} (hf : f_DI_ofPair x1 σ = some (r, σ')) : Ctr Γ l y_DI_ofPair c_DI_ofPair 2 (some .int) 1 21 [.ref (Γ.2.2.1 108), .int x1] σ σ' (some (.int r)) := by
  refine Ctr.of (lv := [(0, .ref (Γ.2.2.1 108)), (1, .int x1)]) (by decide +kernel) (Nat.le_of_ble_eq_true rfl) rfl ?_
  intro p e s m args below meth c X hr hk9
  have X : Cx Γ p (z_rm 1 21) s m args c c_DI_ofPair 2 "CaptionTallies$Distances" 0 0 := X
  rw [f_DI_ofPair] at hf
  refine g_aload_n X d_DI_ofPair_0 0 rfl ?_
  refine gf_108_1 X d_DI_ofPair_1 wl_DI_15 ?_
  refine g_iload_n X d_DI_ofPair_4 1 rfl ?_
  obtain ⟨r1, σ2, er1, hf⟩ := bd_some hf
  refine can_CT_at X d_DI_ofPair_5 wl_DI_34 ⟨Nat.le_of_ble_eq_true rfl, Nat.le_of_ble_eq_true rfl⟩ (sum8 rfl) kd_110 er1 ?_
  exact g_iret X d_DI_ofPair_8 hr hk9 hf
section
variable {R : Room} {kc ks : Nat} {Q : State → Prop} {nL : Nat} {cc : ByteArray} {own : String} {pc : Nat} {lv lv' : List (Nat × Value)} {st : List Value}
theorem ca_DI_ofPair {x1 : Int32} (X : Cx Γ p R s m args c cc nL own kc ks) {idx : Nat} (hd : decode cc pc = .ok (.invokevirtual idx, 3)) (hlk : Cond.methodLink own idx y_DI_ofPair ∈ lw_gt) (hR : 1 + 1 ≤ R.frames ∧ 8 + (2 + 11) + 21 ≤ R.locals) (hw : (st.map fun v => v.category).sum ≤ 8) {σ σ' : Sg} {r : Int32} (hf : f_DI_ofPair x1 σ = some (r, σ')) (k : G Γ p l e R s m args below meth c kc ks Q nL (pc + 3) lv (.int r :: st) σ') : G Γ p l e R s m args below meth c kc ks Q nL pc lv (.int x1 :: .ref (Γ.2.2.1 108) :: st) σ :=
  g_callV (As := [.int x1]) (rest := st) X hd (c_DI_ofPair' hf) co_DI_ofPair hlk wn_DI_ofPair wse_DI_ofPair (by decide) kd_108 rfl hR rfl rfl hw k
end
set_option maxRecDepth 10000 in
theorem w_DI_pairAt_12 {K4 : Int32 → Int32 → Sg → Option (Int32 × Sg)} {r : Int32} {σ' : Sg} (X : Cx Γ p (z_rm 0 0) s m args c c_DI_pairAt 5 "CaptionTallies$Distances" 0 0) (hr : meth.sig.returnType = (some .int)) (hk9 : meth.locks = false) (hK4 : ∀ (x2 : Int32) (x3 : Int32) (σ : Sg), K4 x2 x3 σ = some (r, σ') → G Γ p l e (z_rm 0 0) s m args below meth c 0 0 (MQ below (Qx Γ (some (.int r)) σ') args s 0 0 (fun q : Nat => Γ.2.2.2 ≤ q)) 5 4 [(0, .ref (Γ.2.2.1 108)), (2, .int x2), (3, .int x3)] [] σ) : ∀ (n9 : Nat) (x2 : Int32) (x3 : Int32) (x4 : Int32) (σ : Sg), f_DI_pairAt_12 K4 n9 x2 x3 x4 σ = some (r, σ') → G Γ p l e (z_rm 0 0) s m args below meth c 0 0 (MQ below (Qx Γ (some (.int r)) σ') args s 0 0 (fun q : Nat => Γ.2.2.2 ≤ q)) 5 12 [(0, .ref (Γ.2.2.1 108)), (2, .int x2), (3, .int x3), (4, .int x4)] [] σ := by
  intro n9
  induction n9 with
  | zero => intro x2 x3 x4 σ hf; cases hf
  | succ n9 ih =>
    intro x2 x3 x4 σ hf
    rw [f_DI_pairAt_12] at hf
    refine g_iload X d_DI_pairAt_12 3 rfl ?_
    refine g_sipush X d_DI_pairAt_14 (v := (nI 400)) rfl ?_
    refine g_ic_ge X d_DI_pairAt_17 47 (by decide) (fun q1 => ?_) (fun q1 => ?_)
    · have hf := ite_t q1 hf
      refine g_iinc X d_DI_pairAt_47 (j := 2) (lv' := [(3, .int (x3 + (nI 1))), (0, .ref (Γ.2.2.1 108)), (2, .int x2), (4, .int x4)]) rfl rfl (Nat.le_of_ble_eq_true rfl) rfl ?_
      refine g_goto X d_DI_pairAt_50 4 (by decide) ?_
      refine g_sub [1, 2, 0] rfl ?_
      exact hK4 _ _ _ hf
    · have hf := ite_f q1 hf
      refine g_aload_n X d_DI_pairAt_20 0 rfl ?_
      refine gf_108_1 X d_DI_pairAt_21 wl_DI_15 ?_
      refine g_iload X d_DI_pairAt_24 3 rfl ?_
      obtain ⟨b2, hf⟩ := gd_some hf
      refine g_iald X d_DI_pairAt_26 kd_110 b2 ?_
      refine g_iload_n X d_DI_pairAt_27 2 rfl ?_
      refine g_ic_ne X d_DI_pairAt_28 41 (by decide) (fun q3 => ?_) (fun q3 => ?_)
      · have hf := ite_f q3 hf
        refine g_iinc X d_DI_pairAt_41 (j := 3) (lv' := [(4, .int (x4 + (nI 1))), (0, .ref (Γ.2.2.1 108)), (2, .int x2), (3, .int x3)]) rfl rfl (Nat.le_of_ble_eq_true rfl) rfl ?_
        refine g_goto X d_DI_pairAt_44 12 (by decide) ?_
        refine g_sub [1, 2, 3, 0] rfl ?_
        exact ih _ _ _ _ hf
      · have hf := ite_t q3 hf
        refine g_iload_n X d_DI_pairAt_31 1 rfl ?_
        refine g_if_ne X d_DI_pairAt_32 38 (by decide) (fun q4 => ?_) (fun q4 => ?_)
        · have hf := ite_f q4 hf
          refine g_iinc X d_DI_pairAt_38 (j := 1) (lv' := [(2, .int (x2 + (-1))), (0, .ref (Γ.2.2.1 108)), (3, .int x3), (4, .int x4)]) rfl rfl (Nat.le_of_ble_eq_true rfl) rfl ?_
          refine g_iinc X d_DI_pairAt_41 (j := 3) (lv' := [(4, .int (x4 + (nI 1))), (2, .int (x2 + (-1))), (0, .ref (Γ.2.2.1 108)), (3, .int x3)]) rfl rfl (Nat.le_of_ble_eq_true rfl) rfl ?_
          refine g_goto X d_DI_pairAt_44 12 (by decide) ?_
          refine g_sub [2, 1, 3, 0] rfl ?_
          exact ih _ _ _ _ hf
        · have hf := ite_t q4 hf
          refine g_iload X d_DI_pairAt_35 3 rfl ?_
          exact g_iret X d_DI_pairAt_37 hr hk9 hf
set_option maxRecDepth 10000 in
theorem w_DI_pairAt_4 {r : Int32} {σ' : Sg} (X : Cx Γ p (z_rm 0 0) s m args c c_DI_pairAt 5 "CaptionTallies$Distances" 0 0) (hr : meth.sig.returnType = (some .int)) (hk9 : meth.locks = false) : ∀ (n9 : Nat) (x2 : Int32) (x3 : Int32) (σ : Sg), f_DI_pairAt_4 n9 x2 x3 σ = some (r, σ') → G Γ p l e (z_rm 0 0) s m args below meth c 0 0 (MQ below (Qx Γ (some (.int r)) σ') args s 0 0 (fun q : Nat => Γ.2.2.2 ≤ q)) 5 4 [(0, .ref (Γ.2.2.1 108)), (2, .int x2), (3, .int x3)] [] σ := by
  intro n9
  induction n9 with
  | zero => intro x2 x3 σ hf; cases hf
  | succ n9 ih =>
    intro x2 x3 σ hf
    rw [f_DI_pairAt_4] at hf
    refine g_iload_n X d_DI_pairAt_4 2 rfl ?_
    refine g_iconst X d_DI_pairAt_5 (v := (nI 3)) rfl ?_
    refine g_ic_gt X d_DI_pairAt_6 53 (by decide) (fun q1 => ?_) (fun q1 => ?_)
    · have hf := ite_t q1 hf
      refine g_bipush X d_DI_pairAt_53 (v := (-5)) rfl ?_
      exact g_iret X d_DI_pairAt_55 hr hk9 hf
    · have hf := ite_f q1 hf
      refine g_iconst X d_DI_pairAt_9 (v := (nI 0)) rfl ?_
      refine g_istore X d_DI_pairAt_10 (lv' := [(4, .int (nI 0)), (0, .ref (Γ.2.2.1 108)), (2, .int x2), (3, .int x3)]) (Nat.le_of_ble_eq_true rfl) rfl ?_
      refine g_sub [1, 2, 3, 0] rfl ?_
      exact w_DI_pairAt_12 X hr hk9 ih _ _ _ _ _ hf
set_option maxRecDepth 10000 in
theorem c_DI_pairAt' {Γ : Gm} {l : Launch} {x1 : Int32} {σ σ' : Sg} {r : Int32} (hf : f_DI_pairAt x1 σ = some (r, σ')) : Ctr Γ l y_DI_pairAt c_DI_pairAt 5 (some .int) 0 0 [.ref (Γ.2.2.1 108), .int x1] σ σ' (some (.int r)) := by
  refine Ctr.of (lv := [(0, .ref (Γ.2.2.1 108)), (1, .int x1)]) (by decide +kernel) (Nat.le_of_ble_eq_true rfl) rfl ?_
  intro p e s m args below meth c X hr hk9
  have X : Cx Γ p (z_rm 0 0) s m args c c_DI_pairAt 5 "CaptionTallies$Distances" 0 0 := X
  rw [f_DI_pairAt] at hf
  refine g_iload_n X d_DI_pairAt_0 1 rfl ?_
  refine g_istore_n X d_DI_pairAt_1 rfl (lv' := [(2, .int x1), (0, .ref (Γ.2.2.1 108)), (1, .int x1)]) (Nat.le_of_ble_eq_true rfl) rfl ?_
  refine g_iconst X d_DI_pairAt_2 (v := (nI 0)) rfl ?_
  refine g_istore_n X d_DI_pairAt_3 rfl (lv' := [(3, .int (nI 0)), (2, .int x1), (0, .ref (Γ.2.2.1 108)), (1, .int x1)]) (Nat.le_of_ble_eq_true rfl) rfl ?_
  refine g_sub [2, 1, 0] rfl ?_
  exact w_DI_pairAt_4 X hr hk9 _ _ _ _ hf
section
variable {R : Room} {kc ks : Nat} {Q : State → Prop} {nL : Nat} {cc : ByteArray} {own : String} {pc : Nat} {lv lv' : List (Nat × Value)} {st : List Value}
theorem ca_DI_pairAt {x1 : Int32} (X : Cx Γ p R s m args c cc nL own kc ks) {idx : Nat} (hd : decode cc pc = .ok (.invokevirtual idx, 3)) (hlk : Cond.methodLink own idx y_DI_pairAt ∈ lw_gt) (hR : 0 + 1 ≤ R.frames ∧ 8 + (5 + 11) + 0 ≤ R.locals) (hw : (st.map fun v => v.category).sum ≤ 8) {σ σ' : Sg} {r : Int32} (hf : f_DI_pairAt x1 σ = some (r, σ')) (k : G Γ p l e R s m args below meth c kc ks Q nL (pc + 3) lv (.int r :: st) σ') : G Γ p l e R s m args below meth c kc ks Q nL pc lv (.int x1 :: .ref (Γ.2.2.1 108) :: st) σ :=
  g_callV (As := [.int x1]) (rest := st) X hd (c_DI_pairAt' hf) co_DI_pairAt hlk wn_DI_pairAt wse_DI_pairAt (by decide) kd_108 rfl hR rfl rfl hw k
end
set_option maxRecDepth 10000 in
theorem c_CT_near' {Γ : Gm} {l : Launch} {x1 : Int32} {x2 : Int32} {σ σ' : Sg} {r : Int32} (hf : f_CT_near x1 x2 σ = some (r, σ')) : Ctr Γ l y_CT_near c_CT_near 4 (some .int) 6 144 [.ref (Γ.2.2.1 111), .int x1, .int x2] σ σ' (some (.int r)) := by
  refine Ctr.of (lv := [(0, .ref (Γ.2.2.1 111)), (1, .int x1), (2, .int x2)]) (by decide +kernel) (Nat.le_of_ble_eq_true rfl) rfl ?_
  intro p e s m args below meth c X hr hk9
  have X : Cx Γ p (z_rm 6 144) s m args c c_CT_near 4 "CaptionTallies" 0 0 := X
  rw [f_CT_near] at hf
  refine g_iload_n X d_CT_near_0 1 rfl ?_
  refine g_if_lt X d_CT_near_1 12 (by decide) (fun q1 => ?_) (fun q1 => ?_)
  · have hf := ite_t q1 hf
    refine g_bipush X d_CT_near_12 (v := (-2)) rfl ?_
    exact g_iret X d_CT_near_14 hr hk9 hf
  · have hf := ite_f q1 hf
    refine g_iload_n X d_CT_near_4 2 rfl ?_
    refine g_iconst X d_CT_near_5 (v := (nI 3)) rfl ?_
    obtain ⟨r2, σ3, er2, hf⟩ := bd_some hf
    refine ca_CT_isIndex X d_CT_near_6 wl_CT_86 ⟨Nat.le_of_ble_eq_true rfl, Nat.le_of_ble_eq_true rfl⟩ (sum8 rfl) er2 ?_
    refine g_if_ne X d_CT_near_9 15 (by decide) (fun q4 => ?_) (fun q4 => ?_)
    · have hf := ite_f q4 hf
      refine g_aload_n X d_CT_near_15 0 rfl ?_
      refine gf_111_5 X d_CT_near_16 wl_CT_40 ?_
      refine g_aload_n X d_CT_near_19 0 rfl ?_
      refine gf_111_1 X d_CT_near_20 wl_CT_19 ?_
      obtain ⟨r5, σ6, er5, hf⟩ := bd_some hf
      refine ca_GR_find X d_CT_near_23 wl_CT_116 ⟨Nat.le_of_ble_eq_true rfl, Nat.le_of_ble_eq_true rfl⟩ (sum8 rfl) er5 ?_
      refine g_aload_n X d_CT_near_26 0 rfl ?_
      refine gf_111_11 X d_CT_near_27 wl_CT_82 ?_
      refine g_aload_n X d_CT_near_30 0 rfl ?_
      refine gf_111_1 X d_CT_near_31 wl_CT_19 ?_
      refine g_aload_n X d_CT_near_34 0 rfl ?_
      refine gf_111_5 X d_CT_near_35 wl_CT_40 ?_
      obtain ⟨r7, σ8, er7, hf⟩ := bd_some hf
      refine ca_DI_fill X d_CT_near_38 wl_CT_276 ⟨Nat.le_of_ble_eq_true rfl, Nat.le_of_ble_eq_true rfl⟩ (sum8 rfl) er7 ?_
      refine g_aload_n X d_CT_near_41 0 rfl ?_
      refine gf_111_11 X d_CT_near_42 wl_CT_82 ?_
      refine g_iload_n X d_CT_near_45 1 rfl ?_
      obtain ⟨r9, σ10, er9, hf⟩ := bd_some hf
      refine ca_DI_pairAt X d_CT_near_46 wl_CT_277 ⟨Nat.le_of_ble_eq_true rfl, Nat.le_of_ble_eq_true rfl⟩ (sum8 rfl) er9 ?_
      refine g_istore_n X d_CT_near_49 rfl (lv' := [(3, .int r9), (0, .ref (Γ.2.2.1 111)), (1, .int x1), (2, .int x2)]) (Nat.le_of_ble_eq_true rfl) rfl ?_
      refine g_iload_n X d_CT_near_50 0 rfl ?_
      refine g_bipush X d_CT_near_51 (v := (-5)) rfl ?_
      refine g_ic_ne X d_CT_near_53 59 (by decide) (fun q11 => ?_) (fun q11 => ?_)
      · have hf := ite_f q11 hf
        refine g_iload_n X d_CT_near_59 3 rfl ?_
        by_cases q12 : x2 = (nI 0)
        · have hf := ite_t q12 hf
          refine g_ls (off := 28) X d_CT_near_60 88 (by decide) (by first | (rw [q12]; done) | (rw [q12]; rfl)) (by decide) ?_
          refine g_iload_n X d_CT_near_88 0 rfl ?_
          refine g_bipush X d_CT_near_89 (v := (nI 20)) rfl ?_
          obtain ⟨b13, hf⟩ := gd_some hf
          refine g_idiv X d_CT_near_91 (nz_of b13) ?_
          exact g_iret X d_CT_near_92 hr hk9 hf
        have hf := ite_f q12 hf
        by_cases q14 : x2 = (nI 1)
        · have hf := ite_t q14 hf
          refine g_ls (off := 33) X d_CT_near_60 93 (by decide) (by first | (rw [q14]; done) | (rw [q14]; rfl)) (by decide) ?_
          refine g_iload_n X d_CT_near_93 0 rfl ?_
          refine g_bipush X d_CT_near_94 (v := (nI 20)) rfl ?_
          obtain ⟨b15, hf⟩ := gd_some hf
          refine g_irem X d_CT_near_96 (nz_of b15) ?_
          exact g_iret X d_CT_near_97 hr hk9 hf
        have hf := ite_f q14 hf
        refine g_ls (off := 38) X d_CT_near_60 98 (by decide) ((lv_osw q12 rfl).trans ((lv_osw q14 rfl).trans rfl)) (by decide) ?_
        refine g_aload_n X d_CT_near_98 1 rfl ?_
        refine gf_111_11 X d_CT_near_99 wl_CT_82 ?_
        refine g_iload_n X d_CT_near_102 0 rfl ?_
        obtain ⟨r16, σ17, er16, hf⟩ := bd_some hf
        refine ca_DI_ofPair X d_CT_near_103 wl_CT_280 ⟨Nat.le_of_ble_eq_true rfl, Nat.le_of_ble_eq_true rfl⟩ (sum8 rfl) er16 ?_
        exact g_iret X d_CT_near_106 hr hk9 hf
      · have hf := ite_t q11 hf
        refine g_bipush X d_CT_near_56 (v := (-5)) rfl ?_
        exact g_iret X d_CT_near_58 hr hk9 hf
    · have hf := ite_t q4 hf
      refine g_bipush X d_CT_near_12 (v := (-2)) rfl ?_
      exact g_iret X d_CT_near_14 hr hk9 hf
section
variable {R : Room} {kc ks : Nat} {Q : State → Prop} {nL : Nat} {cc : ByteArray} {own : String} {pc : Nat} {lv lv' : List (Nat × Value)} {st : List Value}
theorem ca_CT_near {x1 : Int32} {x2 : Int32} (X : Cx Γ p R s m args c cc nL own kc ks) {idx : Nat} (hd : decode cc pc = .ok (.invokevirtual idx, 3)) (hlk : Cond.methodLink own idx y_CT_near ∈ lw_gt) (hR : 6 + 1 ≤ R.frames ∧ 8 + (4 + 11) + 144 ≤ R.locals) (hw : (st.map fun v => v.category).sum ≤ 8) {σ σ' : Sg} {r : Int32} (hf : f_CT_near x1 x2 σ = some (r, σ')) (k : G Γ p l e R s m args below meth c kc ks Q nL (pc + 3) lv (.int r :: st) σ') : G Γ p l e R s m args below meth c kc ks Q nL pc lv (.int x2 :: .int x1 :: .ref (Γ.2.2.1 111) :: st) σ :=
  g_callV (As := [.int x1, .int x2]) (rest := st) X hd (c_CT_near' hf) co_CT_near hlk wn_CT_near wse_CT_near (by decide) kd_111 rfl hR rfl rfl hw k
end
set_option maxRecDepth 10000 in
theorem c_CT_isBy' {Γ : Gm} {l : Launch} {x1 : Int32} {x2 : Int32} {σ σ' : Sg} {r : Int32} (hf : f_CT_isBy x1 x2 σ = some (r, σ')) : Ctr Γ l y_CT_isBy c_CT_isBy 3 (some .boolean) 2 42 [.ref (Γ.2.2.1 111), .int x1, .int x2] σ σ' (some (.int r)) := by
  refine Ctr.of (lv := [(0, .ref (Γ.2.2.1 111)), (1, .int x1), (2, .int x2)]) (by decide +kernel) (Nat.le_of_ble_eq_true rfl) rfl ?_
  intro p e s m args below meth c X hr hk9
  have X : Cx Γ p (z_rm 2 42) s m args c c_CT_isBy 3 "CaptionTallies" 0 0 := X
  rw [f_CT_isBy] at hf
  refine g_aload_n X d_CT_isBy_0 0 rfl ?_
  refine gf_111_1 X d_CT_isBy_1 wl_CT_19 ?_
  refine g_iload_n X d_CT_isBy_4 2 rfl ?_
  obtain ⟨r1, σ2, er1, hf⟩ := bd_some hf
  refine ca_ST_isIn X d_CT_isBy_5 wl_CT_105 ⟨Nat.le_of_ble_eq_true rfl, Nat.le_of_ble_eq_true rfl⟩ (sum8 rfl) er1 ?_
  refine g_if_eq X d_CT_isBy_8 27 (by decide) (fun q3 => ?_) (fun q3 => ?_)
  · have hf := ite_t q3 hf
    refine g_iconst X d_CT_isBy_27 (v := (nI 0)) rfl ?_
    exact g_zret X d_CT_isBy_28 hr hk9 rfl hf
  · have hf := ite_f q3 hf
    refine g_aload_n X d_CT_isBy_11 0 rfl ?_
    refine gf_111_1 X d_CT_isBy_12 wl_CT_19 ?_
    refine g_iload_n X d_CT_isBy_15 2 rfl ?_
    obtain ⟨r4, σ5, er4, hf⟩ := bd_some hf
    refine ca_ST_authorOf X d_CT_isBy_16 wl_CT_203 ⟨Nat.le_of_ble_eq_true rfl, Nat.le_of_ble_eq_true rfl⟩ (sum8 rfl) er4 ?_
    refine g_iload_n X d_CT_isBy_19 1 rfl ?_
    refine g_ic_ne X d_CT_isBy_20 27 (by decide) (fun q6 => ?_) (fun q6 => ?_)
    · have hf := ite_f q6 hf
      refine g_iconst X d_CT_isBy_27 (v := (nI 0)) rfl ?_
      exact g_zret X d_CT_isBy_28 hr hk9 rfl hf
    · have hf := ite_t q6 hf
      refine g_iconst X d_CT_isBy_23 (v := (nI 1)) rfl ?_
      refine g_goto X d_CT_isBy_24 28 (by decide) ?_
      exact g_zret X d_CT_isBy_28 hr hk9 rfl hf
section
variable {R : Room} {kc ks : Nat} {Q : State → Prop} {nL : Nat} {cc : ByteArray} {own : String} {pc : Nat} {lv lv' : List (Nat × Value)} {st : List Value}
theorem ca_CT_isBy {x1 : Int32} {x2 : Int32} (X : Cx Γ p R s m args c cc nL own kc ks) {idx : Nat} (hd : decode cc pc = .ok (.invokevirtual idx, 3)) (hlk : Cond.methodLink own idx y_CT_isBy ∈ lw_gt) (hR : 2 + 1 ≤ R.frames ∧ 8 + (3 + 11) + 42 ≤ R.locals) (hw : (st.map fun v => v.category).sum ≤ 8) {σ σ' : Sg} {r : Int32} (hf : f_CT_isBy x1 x2 σ = some (r, σ')) (k : G Γ p l e R s m args below meth c kc ks Q nL (pc + 3) lv (.int r :: st) σ') : G Γ p l e R s m args below meth c kc ks Q nL pc lv (.int x2 :: .int x1 :: .ref (Γ.2.2.1 111) :: st) σ :=
  g_callV (As := [.int x1, .int x2]) (rest := st) X hd (c_CT_isBy' hf) co_CT_isBy hlk wn_CT_isBy wse_CT_isBy (by decide) kd_111 rfl hR rfl rfl hw k
end
set_option maxRecDepth 10000 in
theorem w_CT_amountFor_4 {r : Int32} {σ' : Sg} (X : Cx Γ p (z_rm 3 64) s m args c c_CT_amountFor 4 "CaptionTallies" 0 0) (hr : meth.sig.returnType = (some .int)) (hk9 : meth.locks = false) : ∀ (n9 : Nat) (x1 : Int32) (x2 : Int32) (x3 : Int32) (σ : Sg), f_CT_amountFor_4 n9 x1 x2 x3 σ = some (r, σ') → G Γ p l e (z_rm 3 64) s m args below meth c 0 0 (MQ below (Qx Γ (some (.int r)) σ') args s 0 0 (fun q : Nat => Γ.2.2.2 ≤ q)) 4 4 [(0, .ref (Γ.2.2.1 111)), (1, .int x1), (2, .int x2), (3, .int x3)] [] σ := by
  intro n9
  induction n9 with
  | zero => intro x1 x2 x3 σ hf; cases hf
  | succ n9 ih =>
    intro x1 x2 x3 σ hf
    rw [f_CT_amountFor_4] at hf
    refine g_iload_n X d_CT_amountFor_4 3 rfl ?_
    refine g_bipush X d_CT_amountFor_5 (v := (nI 20)) rfl ?_
    refine g_ic_ge X d_CT_amountFor_7 36 (by decide) (fun q1 => ?_) (fun q1 => ?_)
    · have hf := ite_t q1 hf
      refine g_iload_n X d_CT_amountFor_36 2 rfl ?_
      exact g_iret X d_CT_amountFor_37 hr hk9 hf
    · have hf := ite_f q1 hf
      refine g_aload_n X d_CT_amountFor_10 0 rfl ?_
      refine g_iload_n X d_CT_amountFor_11 1 rfl ?_
      refine g_iload_n X d_CT_amountFor_12 3 rfl ?_
      obtain ⟨r2, σ3, er2, hf⟩ := bd_some hf
      refine ca_CT_isBy X d_CT_amountFor_13 wl_CT_332 ⟨Nat.le_of_ble_eq_true rfl, Nat.le_of_ble_eq_true rfl⟩ (sum8 rfl) er2 ?_
      refine g_if_eq X d_CT_amountFor_16 30 (by decide) (fun q4 => ?_) (fun q4 => ?_)
      · have hf := ite_t q4 hf
        refine g_iinc X d_CT_amountFor_30 (j := 3) (lv' := [(3, .int (x3 + (nI 1))), (0, .ref (Γ.2.2.1 111)), (1, .int x1), (2, .int x2)]) rfl rfl (Nat.le_of_ble_eq_true rfl) rfl ?_
        refine g_goto X d_CT_amountFor_33 4 (by decide) ?_
        refine g_sub [1, 2, 3, 0] rfl ?_
        exact ih _ _ _ _ hf
      · have hf := ite_f q4 hf
        refine g_iload_n X d_CT_amountFor_19 2 rfl ?_
        refine g_aload_n X d_CT_amountFor_20 0 rfl ?_
        refine gf_111_10 X d_CT_amountFor_21 wl_CT_75 ?_
        refine g_iload_n X d_CT_amountFor_24 3 rfl ?_
        obtain ⟨r5, σ6, er5, hf⟩ := bd_some hf
        refine ca_SH_ofCaption X d_CT_amountFor_25 wl_CT_218 ⟨Nat.le_of_ble_eq_true rfl, Nat.le_of_ble_eq_true rfl⟩ (sum8 rfl) er5 ?_
        refine g_iadd X d_CT_amountFor_28 ?_
        obtain ⟨v7, ev7, hf⟩ := lt_ex hf
        refine g_top ev7 ?_
        refine g_istore_n X d_CT_amountFor_29 rfl (lv' := [(2, .int v7), (0, .ref (Γ.2.2.1 111)), (1, .int x1), (3, .int x3)]) (Nat.le_of_ble_eq_true rfl) rfl ?_
        refine g_iinc X d_CT_amountFor_30 (j := 3) (lv' := [(3, .int (x3 + (nI 1))), (2, .int v7), (0, .ref (Γ.2.2.1 111)), (1, .int x1)]) rfl rfl (Nat.le_of_ble_eq_true rfl) rfl ?_
        refine g_goto X d_CT_amountFor_33 4 (by decide) ?_
        refine g_sub [2, 3, 1, 0] rfl ?_
        exact ih _ _ _ _ hf
set_option maxRecDepth 10000 in
theorem c_CT_amountFor' {Γ : Gm} {l : Launch} {x1 : Int32} {σ σ' : Sg} {r : Int32} (hf : f_CT_amountFor x1 σ = some (r, σ')) : Ctr Γ l y_CT_amountFor c_CT_amountFor 4 (some .int) 3 64 [.ref (Γ.2.2.1 111), .int x1] σ σ' (some (.int r)) := by
  refine Ctr.of (lv := [(0, .ref (Γ.2.2.1 111)), (1, .int x1)]) (by decide +kernel) (Nat.le_of_ble_eq_true rfl) rfl ?_
  intro p e s m args below meth c X hr hk9
  have X : Cx Γ p (z_rm 3 64) s m args c c_CT_amountFor 4 "CaptionTallies" 0 0 := X
  rw [f_CT_amountFor] at hf
  refine g_iconst X d_CT_amountFor_0 (v := (nI 0)) rfl ?_
  refine g_istore_n X d_CT_amountFor_1 rfl (lv' := [(2, .int (nI 0)), (0, .ref (Γ.2.2.1 111)), (1, .int x1)]) (Nat.le_of_ble_eq_true rfl) rfl ?_
  refine g_iconst X d_CT_amountFor_2 (v := (nI 0)) rfl ?_
  refine g_istore_n X d_CT_amountFor_3 rfl (lv' := [(3, .int (nI 0)), (2, .int (nI 0)), (0, .ref (Γ.2.2.1 111)), (1, .int x1)]) (Nat.le_of_ble_eq_true rfl) rfl ?_
  refine g_sub [2, 3, 1, 0] rfl ?_
  exact w_CT_amountFor_4 X hr hk9 _ _ _ _ _ hf
section
variable {R : Room} {kc ks : Nat} {Q : State → Prop} {nL : Nat} {cc : ByteArray} {own : String} {pc : Nat} {lv lv' : List (Nat × Value)} {st : List Value}
theorem ca_CT_amountFor {x1 : Int32} (X : Cx Γ p R s m args c cc nL own kc ks) {idx : Nat} (hd : decode cc pc = .ok (.invokevirtual idx, 3)) (hlk : Cond.methodLink own idx y_CT_amountFor ∈ lw_gt) (hR : 3 + 1 ≤ R.frames ∧ 8 + (4 + 11) + 64 ≤ R.locals) (hw : (st.map fun v => v.category).sum ≤ 8) {σ σ' : Sg} {r : Int32} (hf : f_CT_amountFor x1 σ = some (r, σ')) (k : G Γ p l e R s m args below meth c kc ks Q nL (pc + 3) lv (.int r :: st) σ') : G Γ p l e R s m args below meth c kc ks Q nL pc lv (.int x1 :: .ref (Γ.2.2.1 111) :: st) σ :=
  g_callV (As := [.int x1]) (rest := st) X hd (c_CT_amountFor' hf) co_CT_amountFor hlk wn_CT_amountFor wse_CT_amountFor (by decide) kd_111 rfl hR rfl rfl hw k
end
set_option maxRecDepth 10000 in
theorem w_CT_bestPlaceOf_5 {r : Int32} {σ' : Sg} (X : Cx Γ p (z_rm 3 64) s m args c c_CT_bestPlaceOf 5 "CaptionTallies" 0 0) (hr : meth.sig.returnType = (some .int)) (hk9 : meth.locks = false) : ∀ (n9 : Nat) (x1 : Int32) (x2 : Int32) (x3 : Int32) (σ : Sg), f_CT_bestPlaceOf_5 n9 x1 x2 x3 σ = some (r, σ') → G Γ p l e (z_rm 3 64) s m args below meth c 0 0 (MQ below (Qx Γ (some (.int r)) σ') args s 0 0 (fun q : Nat => Γ.2.2.2 ≤ q)) 5 5 [(0, .ref (Γ.2.2.1 111)), (1, .int x1), (2, .int x2), (3, .int x3)] [] σ := by
  intro n9
  induction n9 with
  | zero => intro x1 x2 x3 σ hf; cases hf
  | succ n9 ih =>
    intro x1 x2 x3 σ hf
    rw [f_CT_bestPlaceOf_5] at hf
    refine g_iload_n X d_CT_bestPlaceOf_5 3 rfl ?_
    refine g_bipush X d_CT_bestPlaceOf_6 (v := (nI 20)) rfl ?_
    refine g_ic_ge X d_CT_bestPlaceOf_8 61 (by decide) (fun q1 => ?_) (fun q1 => ?_)
    · have hf := ite_t q1 hf
      refine g_iload_n X d_CT_bestPlaceOf_61 2 rfl ?_
      exact g_iret X d_CT_bestPlaceOf_62 hr hk9 hf
    · have hf := ite_f q1 hf
      refine g_aload_n X d_CT_bestPlaceOf_11 0 rfl ?_
      refine g_iload_n X d_CT_bestPlaceOf_12 1 rfl ?_
      refine g_iload_n X d_CT_bestPlaceOf_13 3 rfl ?_
      obtain ⟨r2, σ3, er2, hf⟩ := bd_some hf
      refine ca_CT_isBy X d_CT_bestPlaceOf_14 wl_CT_332 ⟨Nat.le_of_ble_eq_true rfl, Nat.le_of_ble_eq_true rfl⟩ (sum8 rfl) er2 ?_
      refine g_if_eq X d_CT_bestPlaceOf_17 55 (by decide) (fun q4 => ?_) (fun q4 => ?_)
      · have hf := ite_t q4 hf
        refine g_iinc X d_CT_bestPlaceOf_55 (j := 3) (lv' := [(3, .int (x3 + (nI 1))), (0, .ref (Γ.2.2.1 111)), (1, .int x1), (2, .int x2)]) rfl rfl (Nat.le_of_ble_eq_true rfl) rfl ?_
        refine g_goto X d_CT_bestPlaceOf_58 5 (by decide) ?_
        refine g_sub [1, 2, 3, 0] rfl ?_
        exact ih _ _ _ _ hf
      · have hf := ite_f q4 hf
        refine g_aload_n X d_CT_bestPlaceOf_20 0 rfl ?_
        refine gf_111_9 X d_CT_bestPlaceOf_21 wl_CT_68 ?_
        refine g_aload_n X d_CT_bestPlaceOf_24 0 rfl ?_
        refine gf_111_5 X d_CT_bestPlaceOf_25 wl_CT_40 ?_
        refine g_iload_n X d_CT_bestPlaceOf_28 3 rfl ?_
        obtain ⟨r5, σ6, er5, hf⟩ := bd_some hf
        refine ca_GR_headOf X d_CT_bestPlaceOf_29 wl_CT_119 ⟨Nat.le_of_ble_eq_true rfl, Nat.le_of_ble_eq_true rfl⟩ (sum8 rfl) er5 ?_
        obtain ⟨r7, σ8, er7, hf⟩ := bd_some hf
        refine ca_OR_placeOf X d_CT_bestPlaceOf_32 wl_CT_242 ⟨Nat.le_of_ble_eq_true rfl, Nat.le_of_ble_eq_true rfl⟩ (sum8 rfl) er7 ?_
        refine g_istore X d_CT_bestPlaceOf_35 (lv' := [(4, .int r7), (0, .ref (Γ.2.2.1 111)), (1, .int x1), (2, .int x2), (3, .int x3)]) (Nat.le_of_ble_eq_true rfl) rfl ?_
        refine g_iload_n X d_CT_bestPlaceOf_37 3 rfl ?_
        refine g_bipush X d_CT_bestPlaceOf_38 (v := (-5)) rfl ?_
        refine g_ic_ne X d_CT_bestPlaceOf_40 48 (by decide) (fun q9 => ?_) (fun q9 => ?_)
        · have hf := ite_f q9 hf
          refine g_iload_n X d_CT_bestPlaceOf_48 3 rfl ?_
          refine g_iload X d_CT_bestPlaceOf_49 0 rfl ?_
          refine g_mmin X d_CT_bestPlaceOf_51 wl_CT_335 wm_min_s wi_MA wm_min_c ⟨Nat.le_of_ble_eq_true rfl, Nat.le_of_ble_eq_true rfl⟩ ?_
          obtain ⟨v10, ev10, hf⟩ := lt_ex hf
          refine g_top ev10 ?_
          refine g_istore_n X d_CT_bestPlaceOf_54 rfl (lv' := [(2, .int v10), (4, .int r7), (0, .ref (Γ.2.2.1 111)), (1, .int x1), (3, .int x3)]) (Nat.le_of_ble_eq_true rfl) rfl ?_
          refine g_iinc X d_CT_bestPlaceOf_55 (j := 4) (lv' := [(3, .int (x3 + (nI 1))), (2, .int v10), (4, .int r7), (0, .ref (Γ.2.2.1 111)), (1, .int x1)]) rfl rfl (Nat.le_of_ble_eq_true rfl) rfl ?_
          refine g_goto X d_CT_bestPlaceOf_58 5 (by decide) ?_
          refine g_sub [3, 4, 1, 0] rfl ?_
          exact ih _ _ _ _ hf
        · have hf := ite_t q9 hf
          refine g_iload X d_CT_bestPlaceOf_43 0 rfl ?_
          refine g_goto X d_CT_bestPlaceOf_45 54 (by decide) ?_
          refine g_istore_n X d_CT_bestPlaceOf_54 rfl (lv' := [(2, .int r7), (4, .int r7), (0, .ref (Γ.2.2.1 111)), (1, .int x1), (3, .int x3)]) (Nat.le_of_ble_eq_true rfl) rfl ?_
          refine g_iinc X d_CT_bestPlaceOf_55 (j := 4) (lv' := [(3, .int (x3 + (nI 1))), (2, .int r7), (4, .int r7), (0, .ref (Γ.2.2.1 111)), (1, .int x1)]) rfl rfl (Nat.le_of_ble_eq_true rfl) rfl ?_
          refine g_goto X d_CT_bestPlaceOf_58 5 (by decide) ?_
          refine g_sub [3, 4, 1, 0] rfl ?_
          exact ih _ _ _ _ hf
set_option maxRecDepth 10000 in
theorem c_CT_bestPlaceOf' {Γ : Gm} {l : Launch} {x1 : Int32} {σ σ' : Sg} {r : Int32} (hf : f_CT_bestPlaceOf x1 σ = some (r, σ')) : Ctr Γ l y_CT_bestPlaceOf c_CT_bestPlaceOf 5 (some .int) 3 64 [.ref (Γ.2.2.1 111), .int x1] σ σ' (some (.int r)) := by
  refine Ctr.of (lv := [(0, .ref (Γ.2.2.1 111)), (1, .int x1)]) (by decide +kernel) (Nat.le_of_ble_eq_true rfl) rfl ?_
  intro p e s m args below meth c X hr hk9
  have X : Cx Γ p (z_rm 3 64) s m args c c_CT_bestPlaceOf 5 "CaptionTallies" 0 0 := X
  rw [f_CT_bestPlaceOf] at hf
  refine g_bipush X d_CT_bestPlaceOf_0 (v := (-5)) rfl ?_
  refine g_istore_n X d_CT_bestPlaceOf_2 rfl (lv' := [(2, .int (-5)), (0, .ref (Γ.2.2.1 111)), (1, .int x1)]) (Nat.le_of_ble_eq_true rfl) rfl ?_
  refine g_iconst X d_CT_bestPlaceOf_3 (v := (nI 0)) rfl ?_
  refine g_istore_n X d_CT_bestPlaceOf_4 rfl (lv' := [(3, .int (nI 0)), (2, .int (-5)), (0, .ref (Γ.2.2.1 111)), (1, .int x1)]) (Nat.le_of_ble_eq_true rfl) rfl ?_
  refine g_sub [2, 3, 1, 0] rfl ?_
  exact w_CT_bestPlaceOf_5 X hr hk9 _ _ _ _ _ hf
section
variable {R : Room} {kc ks : Nat} {Q : State → Prop} {nL : Nat} {cc : ByteArray} {own : String} {pc : Nat} {lv lv' : List (Nat × Value)} {st : List Value}
theorem ca_CT_bestPlaceOf {x1 : Int32} (X : Cx Γ p R s m args c cc nL own kc ks) {idx : Nat} (hd : decode cc pc = .ok (.invokevirtual idx, 3)) (hlk : Cond.methodLink own idx y_CT_bestPlaceOf ∈ lw_gt) (hR : 3 + 1 ≤ R.frames ∧ 8 + (5 + 11) + 64 ≤ R.locals) (hw : (st.map fun v => v.category).sum ≤ 8) {σ σ' : Sg} {r : Int32} (hf : f_CT_bestPlaceOf x1 σ = some (r, σ')) (k : G Γ p l e R s m args below meth c kc ks Q nL (pc + 3) lv (.int r :: st) σ') : G Γ p l e R s m args below meth c kc ks Q nL pc lv (.int x1 :: .ref (Γ.2.2.1 111) :: st) σ :=
  g_callV (As := [.int x1]) (rest := st) X hd (c_CT_bestPlaceOf' hf) co_CT_bestPlaceOf hlk wn_CT_bestPlaceOf wse_CT_bestPlaceOf (by decide) kd_111 rfl hR rfl rfl hw k
end
set_option maxRecDepth 10000 in
theorem w_CT_captionsBy_4 {r : Int32} {σ' : Sg} (X : Cx Γ p (z_rm 3 64) s m args c c_CT_captionsBy 4 "CaptionTallies" 0 0) (hr : meth.sig.returnType = (some .int)) (hk9 : meth.locks = false) : ∀ (n9 : Nat) (x1 : Int32) (x2 : Int32) (x3 : Int32) (σ : Sg), f_CT_captionsBy_4 n9 x1 x2 x3 σ = some (r, σ') → G Γ p l e (z_rm 3 64) s m args below meth c 0 0 (MQ below (Qx Γ (some (.int r)) σ') args s 0 0 (fun q : Nat => Γ.2.2.2 ≤ q)) 4 4 [(0, .ref (Γ.2.2.1 111)), (1, .int x1), (2, .int x2), (3, .int x3)] [] σ := by
  intro n9
  induction n9 with
  | zero => intro x1 x2 x3 σ hf; cases hf
  | succ n9 ih =>
    intro x1 x2 x3 σ hf
    rw [f_CT_captionsBy_4] at hf
    refine g_iload_n X d_CT_captionsBy_4 3 rfl ?_
    refine g_bipush X d_CT_captionsBy_5 (v := (nI 20)) rfl ?_
    refine g_ic_ge X d_CT_captionsBy_7 28 (by decide) (fun q1 => ?_) (fun q1 => ?_)
    · have hf := ite_t q1 hf
      refine g_iload_n X d_CT_captionsBy_28 2 rfl ?_
      exact g_iret X d_CT_captionsBy_29 hr hk9 hf
    · have hf := ite_f q1 hf
      refine g_aload_n X d_CT_captionsBy_10 0 rfl ?_
      refine g_iload_n X d_CT_captionsBy_11 1 rfl ?_
      refine g_iload_n X d_CT_captionsBy_12 3 rfl ?_
      obtain ⟨r2, σ3, er2, hf⟩ := bd_some hf
      refine ca_CT_isBy X d_CT_captionsBy_13 wl_CT_332 ⟨Nat.le_of_ble_eq_true rfl, Nat.le_of_ble_eq_true rfl⟩ (sum8 rfl) er2 ?_
      refine g_if_eq X d_CT_captionsBy_16 22 (by decide) (fun q4 => ?_) (fun q4 => ?_)
      · have hf := ite_t q4 hf
        refine g_iinc X d_CT_captionsBy_22 (j := 3) (lv' := [(3, .int (x3 + (nI 1))), (0, .ref (Γ.2.2.1 111)), (1, .int x1), (2, .int x2)]) rfl rfl (Nat.le_of_ble_eq_true rfl) rfl ?_
        refine g_goto X d_CT_captionsBy_25 4 (by decide) ?_
        refine g_sub [1, 2, 3, 0] rfl ?_
        exact ih _ _ _ _ hf
      · have hf := ite_f q4 hf
        refine g_iinc X d_CT_captionsBy_19 (j := 2) (lv' := [(2, .int (x2 + (nI 1))), (0, .ref (Γ.2.2.1 111)), (1, .int x1), (3, .int x3)]) rfl rfl (Nat.le_of_ble_eq_true rfl) rfl ?_
        refine g_iinc X d_CT_captionsBy_22 (j := 3) (lv' := [(3, .int (x3 + (nI 1))), (2, .int (x2 + (nI 1))), (0, .ref (Γ.2.2.1 111)), (1, .int x1)]) rfl rfl (Nat.le_of_ble_eq_true rfl) rfl ?_
        refine g_goto X d_CT_captionsBy_25 4 (by decide) ?_
        refine g_sub [2, 3, 1, 0] rfl ?_
        exact ih _ _ _ _ hf
set_option maxRecDepth 10000 in
theorem c_CT_captionsBy' {Γ : Gm} {l : Launch} {x1 : Int32} {σ σ' : Sg} {r : Int32} (hf : f_CT_captionsBy x1 σ = some (r, σ')) : Ctr Γ l y_CT_captionsBy c_CT_captionsBy 4 (some .int) 3 64 [.ref (Γ.2.2.1 111), .int x1] σ σ' (some (.int r)) := by
  refine Ctr.of (lv := [(0, .ref (Γ.2.2.1 111)), (1, .int x1)]) (by decide +kernel) (Nat.le_of_ble_eq_true rfl) rfl ?_
  intro p e s m args below meth c X hr hk9
  have X : Cx Γ p (z_rm 3 64) s m args c c_CT_captionsBy 4 "CaptionTallies" 0 0 := X
  rw [f_CT_captionsBy] at hf
  refine g_iconst X d_CT_captionsBy_0 (v := (nI 0)) rfl ?_
  refine g_istore_n X d_CT_captionsBy_1 rfl (lv' := [(2, .int (nI 0)), (0, .ref (Γ.2.2.1 111)), (1, .int x1)]) (Nat.le_of_ble_eq_true rfl) rfl ?_
  refine g_iconst X d_CT_captionsBy_2 (v := (nI 0)) rfl ?_
  refine g_istore_n X d_CT_captionsBy_3 rfl (lv' := [(3, .int (nI 0)), (2, .int (nI 0)), (0, .ref (Γ.2.2.1 111)), (1, .int x1)]) (Nat.le_of_ble_eq_true rfl) rfl ?_
  refine g_sub [2, 3, 1, 0] rfl ?_
  exact w_CT_captionsBy_4 X hr hk9 _ _ _ _ _ hf
section
variable {R : Room} {kc ks : Nat} {Q : State → Prop} {nL : Nat} {cc : ByteArray} {own : String} {pc : Nat} {lv lv' : List (Nat × Value)} {st : List Value}
theorem ca_CT_captionsBy {x1 : Int32} (X : Cx Γ p R s m args c cc nL own kc ks) {idx : Nat} (hd : decode cc pc = .ok (.invokevirtual idx, 3)) (hlk : Cond.methodLink own idx y_CT_captionsBy ∈ lw_gt) (hR : 3 + 1 ≤ R.frames ∧ 8 + (4 + 11) + 64 ≤ R.locals) (hw : (st.map fun v => v.category).sum ≤ 8) {σ σ' : Sg} {r : Int32} (hf : f_CT_captionsBy x1 σ = some (r, σ')) (k : G Γ p l e R s m args below meth c kc ks Q nL (pc + 3) lv (.int r :: st) σ') : G Γ p l e R s m args below meth c kc ks Q nL pc lv (.int x1 :: .ref (Γ.2.2.1 111) :: st) σ :=
  g_callV (As := [.int x1]) (rest := st) X hd (c_CT_captionsBy' hf) co_CT_captionsBy hlk wn_CT_captionsBy wse_CT_captionsBy (by decide) kd_111 rfl hR rfl rfl hw k
end
set_option maxRecDepth 10000 in
theorem c_CT_author' {Γ : Gm} {l : Launch} {x1 : Int32} {x2 : Int32} {σ σ' : Sg} {r : Int32} (hf : f_CT_author x1 x2 σ = some (r, σ')) : Ctr Γ l y_CT_author c_CT_author 3 (some .int) 6 137 [.ref (Γ.2.2.1 111), .int x1, .int x2] σ σ' (some (.int r)) := by
  refine Ctr.of (lv := [(0, .ref (Γ.2.2.1 111)), (1, .int x1), (2, .int x2)]) (by decide +kernel) (Nat.le_of_ble_eq_true rfl) rfl ?_
  intro p e s m args below meth c X hr hk9
  have X : Cx Γ p (z_rm 6 137) s m args c c_CT_author 3 "CaptionTallies" 0 0 := X
  rw [f_CT_author] at hf
  refine g_iload_n X d_CT_author_0 1 rfl ?_
  refine g_bipush X d_CT_author_1 (v := (nI 10)) rfl ?_
  obtain ⟨r1, σ2, er1, hf⟩ := bd_some hf
  refine ca_CT_isIndex X d_CT_author_3 wl_CT_86 ⟨Nat.le_of_ble_eq_true rfl, Nat.le_of_ble_eq_true rfl⟩ (sum8 rfl) er1 ?_
  refine g_if_ne X d_CT_author_6 11 (by decide) (fun q3 => ?_) (fun q3 => ?_)
  · have hf := ite_f q3 hf
    refine g_iload_n X d_CT_author_11 2 rfl ?_
    by_cases q4 : x2 = (nI 0)
    · have hf := ite_t q4 hf
      refine g_tsIn X d_CT_author_12 40 (by rw [q4]; decide) (by rw [q4]; decide) (by rw [q4]; rfl) (by decide) ?_
      refine g_aload_n X d_CT_author_40 0 rfl ?_
      refine g_iload_n X d_CT_author_41 1 rfl ?_
      obtain ⟨r5, σ6, er5, hf⟩ := bd_some hf
      refine ca_CT_captionsBy X d_CT_author_42 wl_CT_283 ⟨Nat.le_of_ble_eq_true rfl, Nat.le_of_ble_eq_true rfl⟩ (sum8 rfl) er5 ?_
      exact g_iret X d_CT_author_45 hr hk9 hf
    have hf := ite_f q4 hf
    by_cases q7 : x2 = (nI 1)
    · have hf := ite_t q7 hf
      refine g_tsIn X d_CT_author_12 46 (by rw [q7]; decide) (by rw [q7]; decide) (by rw [q7]; rfl) (by decide) ?_
      refine g_aload_n X d_CT_author_46 0 rfl ?_
      obtain ⟨r8, σ9, er8, hf⟩ := bd_some hf
      refine ca_CT_tally X d_CT_author_47 wl_CT_215 ⟨Nat.le_of_ble_eq_true rfl, Nat.le_of_ble_eq_true rfl⟩ (sum8 rfl) er8 ?_
      refine g_aload_n X d_CT_author_50 0 rfl ?_
      refine g_iload_n X d_CT_author_51 1 rfl ?_
      obtain ⟨r10, σ11, er10, hf⟩ := bd_some hf
      refine ca_CT_amountFor X d_CT_author_52 wl_CT_286 ⟨Nat.le_of_ble_eq_true rfl, Nat.le_of_ble_eq_true rfl⟩ (sum8 rfl) er10 ?_
      exact g_iret X d_CT_author_55 hr hk9 hf
    have hf := ite_f q7 hf
    by_cases q12 : x2 = (nI 2)
    · have hf := ite_t q12 hf
      refine g_tsIn X d_CT_author_12 56 (by rw [q12]; decide) (by rw [q12]; decide) (by rw [q12]; rfl) (by decide) ?_
      refine g_aload_n X d_CT_author_56 0 rfl ?_
      obtain ⟨r13, σ14, er13, hf⟩ := bd_some hf
      refine ca_CT_tally X d_CT_author_57 wl_CT_215 ⟨Nat.le_of_ble_eq_true rfl, Nat.le_of_ble_eq_true rfl⟩ (sum8 rfl) er13 ?_
      refine g_aload_n X d_CT_author_60 0 rfl ?_
      refine g_iload_n X d_CT_author_61 1 rfl ?_
      obtain ⟨r15, σ16, er15, hf⟩ := bd_some hf
      refine ca_CT_bestPlaceOf X d_CT_author_62 wl_CT_289 ⟨Nat.le_of_ble_eq_true rfl, Nat.le_of_ble_eq_true rfl⟩ (sum8 rfl) er15 ?_
      exact g_iret X d_CT_author_65 hr hk9 hf
    have hf := ite_f q12 hf
    refine g_tsOut X d_CT_author_12 66 (ts_out 3 (by decide) (fun k hk => by rcases (show k = 0 ∨ k = 1 ∨ k = 2 by omega) with rfl | rfl | rfl <;> assumption)) (by decide) ?_
    refine g_bipush X d_CT_author_66 (v := (-2)) rfl ?_
    exact g_iret X d_CT_author_68 hr hk9 hf
  · have hf := ite_t q3 hf
    refine g_iconst X d_CT_author_9 (v := (-1)) rfl ?_
    exact g_iret X d_CT_author_10 hr hk9 hf
section
variable {R : Room} {kc ks : Nat} {Q : State → Prop} {nL : Nat} {cc : ByteArray} {own : String} {pc : Nat} {lv lv' : List (Nat × Value)} {st : List Value}
theorem ca_CT_author {x1 : Int32} {x2 : Int32} (X : Cx Γ p R s m args c cc nL own kc ks) {idx : Nat} (hd : decode cc pc = .ok (.invokevirtual idx, 3)) (hlk : Cond.methodLink own idx y_CT_author ∈ lw_gt) (hR : 6 + 1 ≤ R.frames ∧ 8 + (3 + 11) + 137 ≤ R.locals) (hw : (st.map fun v => v.category).sum ≤ 8) {σ σ' : Sg} {r : Int32} (hf : f_CT_author x1 x2 σ = some (r, σ')) (k : G Γ p l e R s m args below meth c kc ks Q nL (pc + 3) lv (.int r :: st) σ') : G Γ p l e R s m args below meth c kc ks Q nL pc lv (.int x2 :: .int x1 :: .ref (Γ.2.2.1 111) :: st) σ :=
  g_callV (As := [.int x1, .int x2]) (rest := st) X hd (c_CT_author' hf) co_CT_author hlk wn_CT_author wse_CT_author (by decide) kd_111 rfl hR rfl rfl hw k
end
set_option maxRecDepth 10000 in
theorem w_CO_ballotsThatCount_4 {r : Int32} {σ' : Sg} (X : Cx Γ p (z_rm 2 43) s m args c c_CO_ballotsThatCount 3 "CaptionTallies$Counts" 0 0) (hr : meth.sig.returnType = (some .int)) (hk9 : meth.locks = false) : ∀ (n9 : Nat) (x1 : Int32) (x2 : Int32) (σ : Sg), f_CO_ballotsThatCount_4 n9 x1 x2 σ = some (r, σ') → G Γ p l e (z_rm 2 43) s m args below meth c 0 0 (MQ below (Qx Γ (some (.int r)) σ') args s 0 0 (fun q : Nat => Γ.2.2.2 ≤ q)) 3 4 [(0, .ref (Γ.2.2.1 85)), (1, .int x1), (2, .int x2)] [] σ := by
  intro n9
  induction n9 with
  | zero => intro x1 x2 σ hf; cases hf
  | succ n9 ih =>
    intro x1 x2 σ hf
    rw [f_CO_ballotsThatCount_4] at hf
    refine g_iload_n X d_CO_ballotsThatCount_4 2 rfl ?_
    refine g_bipush X d_CO_ballotsThatCount_5 (v := (nI 12)) rfl ?_
    refine g_ic_ge X d_CO_ballotsThatCount_7 30 (by decide) (fun q1 => ?_) (fun q1 => ?_)
    · have hf := ite_t q1 hf
      refine g_iload_n X d_CO_ballotsThatCount_30 1 rfl ?_
      exact g_iret X d_CO_ballotsThatCount_31 hr hk9 hf
    · have hf := ite_f q1 hf
      refine g_aload_n X d_CO_ballotsThatCount_10 0 rfl ?_
      refine g_iload_n X d_CO_ballotsThatCount_11 2 rfl ?_
      refine g_iconst X d_CO_ballotsThatCount_12 (v := (nI 0)) rfl ?_
      obtain ⟨r2, σ3, er2, hf⟩ := bd_some hf
      refine ca_CO_wish X d_CO_ballotsThatCount_13 wl_CO_57 ⟨Nat.le_of_ble_eq_true rfl, Nat.le_of_ble_eq_true rfl⟩ (sum8 rfl) er2 ?_
      refine g_bipush X d_CO_ballotsThatCount_16 (v := (-5)) rfl ?_
      refine g_ic_eq X d_CO_ballotsThatCount_18 24 (by decide) (fun q4 => ?_) (fun q4 => ?_)
      · have hf := ite_t q4 hf
        refine g_iinc X d_CO_ballotsThatCount_24 (j := 2) (lv' := [(2, .int (x2 + (nI 1))), (0, .ref (Γ.2.2.1 85)), (1, .int x1)]) rfl rfl (Nat.le_of_ble_eq_true rfl) rfl ?_
        refine g_goto X d_CO_ballotsThatCount_27 4 (by decide) ?_
        refine g_sub [1, 2, 0] rfl ?_
        exact ih _ _ _ hf
      · have hf := ite_f q4 hf
        refine g_iinc X d_CO_ballotsThatCount_21 (j := 1) (lv' := [(1, .int (x1 + (nI 1))), (0, .ref (Γ.2.2.1 85)), (2, .int x2)]) rfl rfl (Nat.le_of_ble_eq_true rfl) rfl ?_
        refine g_iinc X d_CO_ballotsThatCount_24 (j := 2) (lv' := [(2, .int (x2 + (nI 1))), (1, .int (x1 + (nI 1))), (0, .ref (Γ.2.2.1 85))]) rfl rfl (Nat.le_of_ble_eq_true rfl) rfl ?_
        refine g_goto X d_CO_ballotsThatCount_27 4 (by decide) ?_
        refine g_sub [2, 1, 0] rfl ?_
        exact ih _ _ _ hf
set_option maxRecDepth 10000 in
theorem c_CO_ballotsThatCount' {Γ : Gm} {l : Launch} {σ σ' : Sg} {r : Int32} (hf : f_CO_ballotsThatCount σ = some (r, σ')) : Ctr Γ l y_CO_ballotsThatCount c_CO_ballotsThatCount 3 (some .int) 2 43 [.ref (Γ.2.2.1 85)] σ σ' (some (.int r)) := by
  refine Ctr.of (lv := [(0, .ref (Γ.2.2.1 85))]) (by decide +kernel) (Nat.le_of_ble_eq_true rfl) rfl ?_
  intro p e s m args below meth c X hr hk9
  have X : Cx Γ p (z_rm 2 43) s m args c c_CO_ballotsThatCount 3 "CaptionTallies$Counts" 0 0 := X
  rw [f_CO_ballotsThatCount] at hf
  refine g_iconst X d_CO_ballotsThatCount_0 (v := (nI 0)) rfl ?_
  refine g_istore_n X d_CO_ballotsThatCount_1 rfl (lv' := [(1, .int (nI 0)), (0, .ref (Γ.2.2.1 85))]) (Nat.le_of_ble_eq_true rfl) rfl ?_
  refine g_iconst X d_CO_ballotsThatCount_2 (v := (nI 0)) rfl ?_
  refine g_istore_n X d_CO_ballotsThatCount_3 rfl (lv' := [(2, .int (nI 0)), (1, .int (nI 0)), (0, .ref (Γ.2.2.1 85))]) (Nat.le_of_ble_eq_true rfl) rfl ?_
  refine g_sub [2, 1, 0] rfl ?_
  exact w_CO_ballotsThatCount_4 X hr hk9 _ _ _ _ hf
section
variable {R : Room} {kc ks : Nat} {Q : State → Prop} {nL : Nat} {cc : ByteArray} {own : String} {pc : Nat} {lv lv' : List (Nat × Value)} {st : List Value}
theorem ca_CO_ballotsThatCount (X : Cx Γ p R s m args c cc nL own kc ks) {idx : Nat} (hd : decode cc pc = .ok (.invokevirtual idx, 3)) (hlk : Cond.methodLink own idx y_CO_ballotsThatCount ∈ lw_gt) (hR : 2 + 1 ≤ R.frames ∧ 8 + (3 + 11) + 43 ≤ R.locals) (hw : (st.map fun v => v.category).sum ≤ 8) {σ σ' : Sg} {r : Int32} (hf : f_CO_ballotsThatCount σ = some (r, σ')) (k : G Γ p l e R s m args below meth c kc ks Q nL (pc + 3) lv (.int r :: st) σ') : G Γ p l e R s m args below meth c kc ks Q nL pc lv (.ref (Γ.2.2.1 85) :: st) σ :=
  g_callV (As := []) (rest := st) X hd (c_CO_ballotsThatCount' hf) co_CO_ballotsThatCount hlk wn_CO_ballotsThatCount wse_CO_ballotsThatCount (by decide) kd_85 rfl hR rfl rfl hw k
end
set_option maxRecDepth 10000 in
theorem w_CO_pointsInAll_4 {r : Int32} {σ' : Sg} (X : Cx Γ p (z_rm 0 0) s m args c c_CO_pointsInAll 3 "CaptionTallies$Counts" 0 0) (hr : meth.sig.returnType = (some .int)) (hk9 : meth.locks = false) : ∀ (n9 : Nat) (x1 : Int32) (x2 : Int32) (σ : Sg), f_CO_pointsInAll_4 n9 x1 x2 σ = some (r, σ') → G Γ p l e (z_rm 0 0) s m args below meth c 0 0 (MQ below (Qx Γ (some (.int r)) σ') args s 0 0 (fun q : Nat => Γ.2.2.2 ≤ q)) 3 4 [(0, .ref (Γ.2.2.1 85)), (1, .int x1), (2, .int x2)] [] σ := by
  intro n9
  induction n9 with
  | zero => intro x1 x2 σ hf; cases hf
  | succ n9 ih =>
    intro x1 x2 σ hf
    rw [f_CO_pointsInAll_4] at hf
    refine g_iload_n X d_CO_pointsInAll_4 2 rfl ?_
    refine g_bipush X d_CO_pointsInAll_5 (v := (nI 20)) rfl ?_
    refine g_ic_ge X d_CO_pointsInAll_7 25 (by decide) (fun q1 => ?_) (fun q1 => ?_)
    · have hf := ite_t q1 hf
      refine g_iload_n X d_CO_pointsInAll_25 1 rfl ?_
      exact g_iret X d_CO_pointsInAll_26 hr hk9 hf
    · have hf := ite_f q1 hf
      refine g_iload_n X d_CO_pointsInAll_10 1 rfl ?_
      refine g_aload_n X d_CO_pointsInAll_11 0 rfl ?_
      refine gf_85_1 X d_CO_pointsInAll_12 wl_CO_15 ?_
      refine g_iload_n X d_CO_pointsInAll_15 2 rfl ?_
      obtain ⟨b2, hf⟩ := gd_some hf
      refine g_iald X d_CO_pointsInAll_16 kd_87 b2 ?_
      refine g_iadd X d_CO_pointsInAll_17 ?_
      obtain ⟨v3, ev3, hf⟩ := lt_ex hf
      refine g_top ev3 ?_
      refine g_istore_n X d_CO_pointsInAll_18 rfl (lv' := [(1, .int v3), (0, .ref (Γ.2.2.1 85)), (2, .int x2)]) (Nat.le_of_ble_eq_true rfl) rfl ?_
      refine g_iinc X d_CO_pointsInAll_19 (j := 2) (lv' := [(2, .int (x2 + (nI 1))), (1, .int v3), (0, .ref (Γ.2.2.1 85))]) rfl rfl (Nat.le_of_ble_eq_true rfl) rfl ?_
      refine g_goto X d_CO_pointsInAll_22 4 (by decide) ?_
      refine g_sub [2, 1, 0] rfl ?_
      exact ih _ _ _ hf
set_option maxRecDepth 10000 in
theorem c_CO_pointsInAll' {Γ : Gm} {l : Launch} {σ σ' : Sg} {r : Int32} (hf : f_CO_pointsInAll σ = some (r, σ')) : Ctr Γ l y_CO_pointsInAll c_CO_pointsInAll 3 (some .int) 0 0 [.ref (Γ.2.2.1 85)] σ σ' (some (.int r)) := by
  refine Ctr.of (lv := [(0, .ref (Γ.2.2.1 85))]) (by decide +kernel) (Nat.le_of_ble_eq_true rfl) rfl ?_
  intro p e s m args below meth c X hr hk9
  have X : Cx Γ p (z_rm 0 0) s m args c c_CO_pointsInAll 3 "CaptionTallies$Counts" 0 0 := X
  rw [f_CO_pointsInAll] at hf
  refine g_iconst X d_CO_pointsInAll_0 (v := (nI 0)) rfl ?_
  refine g_istore_n X d_CO_pointsInAll_1 rfl (lv' := [(1, .int (nI 0)), (0, .ref (Γ.2.2.1 85))]) (Nat.le_of_ble_eq_true rfl) rfl ?_
  refine g_iconst X d_CO_pointsInAll_2 (v := (nI 0)) rfl ?_
  refine g_istore_n X d_CO_pointsInAll_3 rfl (lv' := [(2, .int (nI 0)), (1, .int (nI 0)), (0, .ref (Γ.2.2.1 85))]) (Nat.le_of_ble_eq_true rfl) rfl ?_
  refine g_sub [2, 1, 0] rfl ?_
  exact w_CO_pointsInAll_4 X hr hk9 _ _ _ _ hf
section
variable {R : Room} {kc ks : Nat} {Q : State → Prop} {nL : Nat} {cc : ByteArray} {own : String} {pc : Nat} {lv lv' : List (Nat × Value)} {st : List Value}
theorem ca_CO_pointsInAll (X : Cx Γ p R s m args c cc nL own kc ks) {idx : Nat} (hd : decode cc pc = .ok (.invokevirtual idx, 3)) (hlk : Cond.methodLink own idx y_CO_pointsInAll ∈ lw_gt) (hR : 0 + 1 ≤ R.frames ∧ 8 + (3 + 11) + 0 ≤ R.locals) (hw : (st.map fun v => v.category).sum ≤ 8) {σ σ' : Sg} {r : Int32} (hf : f_CO_pointsInAll σ = some (r, σ')) (k : G Γ p l e R s m args below meth c kc ks Q nL (pc + 3) lv (.int r :: st) σ') : G Γ p l e R s m args below meth c kc ks Q nL pc lv (.ref (Γ.2.2.1 85) :: st) σ :=
  g_callV (As := []) (rest := st) X hd (c_CO_pointsInAll' hf) co_CO_pointsInAll hlk wn_CO_pointsInAll wse_CO_pointsInAll (by decide) kd_85 rfl hR rfl rfl hw k
end
set_option maxRecDepth 10000 in
theorem w_OR_tiedGroups_4 {r : Int32} {σ' : Sg} (X : Cx Γ p (z_rm 3 66) s m args c c_OR_tiedGroups 3 "CaptionTallies$Order" 0 0) (hr : meth.sig.returnType = (some .int)) (hk9 : meth.locks = false) : ∀ (n9 : Nat) (x1 : Int32) (x2 : Int32) (σ : Sg), f_OR_tiedGroups_4 n9 x1 x2 σ = some (r, σ') → G Γ p l e (z_rm 3 66) s m args below meth c 0 0 (MQ below (Qx Γ (some (.int r)) σ') args s 0 0 (fun q : Nat => Γ.2.2.2 ≤ q)) 3 4 [(0, .ref (Γ.2.2.1 100)), (1, .int x1), (2, .int x2)] [] σ := by
  intro n9
  induction n9 with
  | zero => intro x1 x2 σ hf; cases hf
  | succ n9 ih =>
    intro x1 x2 σ hf
    rw [f_OR_tiedGroups_4] at hf
    refine g_iload_n X d_OR_tiedGroups_4 2 rfl ?_
    refine g_bipush X d_OR_tiedGroups_5 (v := (nI 20)) rfl ?_
    refine g_ic_ge X d_OR_tiedGroups_7 37 (by decide) (fun q1 => ?_) (fun q1 => ?_)
    · have hf := ite_t q1 hf
      refine g_iload_n X d_OR_tiedGroups_37 1 rfl ?_
      exact g_iret X d_OR_tiedGroups_38 hr hk9 hf
    · have hf := ite_f q1 hf
      refine g_aload_n X d_OR_tiedGroups_10 0 rfl ?_
      refine gf_100_0 X d_OR_tiedGroups_11 wl_OR_9 ?_
      refine g_iload_n X d_OR_tiedGroups_14 2 rfl ?_
      obtain ⟨b2, hf⟩ := gd_some hf
      refine g_zald X d_OR_tiedGroups_15 kd_101 b2 ?_
      refine g_if_eq X d_OR_tiedGroups_16 31 (by decide) (fun q3 => ?_) (fun q3 => ?_)
      · have hf := ite_t q3 hf
        refine g_iinc X d_OR_tiedGroups_31 (j := 2) (lv' := [(2, .int (x2 + (nI 1))), (0, .ref (Γ.2.2.1 100)), (1, .int x1)]) rfl rfl (Nat.le_of_ble_eq_true rfl) rfl ?_
        refine g_goto X d_OR_tiedGroups_34 4 (by decide) ?_
        refine g_sub [1, 2, 0] rfl ?_
        exact ih _ _ _ hf
      · have hf := ite_f q3 hf
        refine g_aload_n X d_OR_tiedGroups_19 0 rfl ?_
        refine g_iload_n X d_OR_tiedGroups_20 2 rfl ?_
        obtain ⟨r4, σ5, er4, hf⟩ := bd_some hf
        refine ca_OR_tiedWith X d_OR_tiedGroups_21 wl_OR_47 ⟨Nat.le_of_ble_eq_true rfl, Nat.le_of_ble_eq_true rfl⟩ (sum8 rfl) er4 ?_
        refine g_iconst X d_OR_tiedGroups_24 (v := (nI 1)) rfl ?_
        refine g_ic_le X d_OR_tiedGroups_25 31 (by decide) (fun q6 => ?_) (fun q6 => ?_)
        · have hf := ite_t q6 hf
          refine g_iinc X d_OR_tiedGroups_31 (j := 2) (lv' := [(2, .int (x2 + (nI 1))), (0, .ref (Γ.2.2.1 100)), (1, .int x1)]) rfl rfl (Nat.le_of_ble_eq_true rfl) rfl ?_
          refine g_goto X d_OR_tiedGroups_34 4 (by decide) ?_
          refine g_sub [1, 2, 0] rfl ?_
          exact ih _ _ _ hf
        · have hf := ite_f q6 hf
          refine g_iinc X d_OR_tiedGroups_28 (j := 1) (lv' := [(1, .int (x1 + (nI 1))), (0, .ref (Γ.2.2.1 100)), (2, .int x2)]) rfl rfl (Nat.le_of_ble_eq_true rfl) rfl ?_
          refine g_iinc X d_OR_tiedGroups_31 (j := 2) (lv' := [(2, .int (x2 + (nI 1))), (1, .int (x1 + (nI 1))), (0, .ref (Γ.2.2.1 100))]) rfl rfl (Nat.le_of_ble_eq_true rfl) rfl ?_
          refine g_goto X d_OR_tiedGroups_34 4 (by decide) ?_
          refine g_sub [2, 1, 0] rfl ?_
          exact ih _ _ _ hf
set_option maxRecDepth 10000 in
theorem c_OR_tiedGroups' {Γ : Gm} {l : Launch} {σ σ' : Sg} {r : Int32} (hf : f_OR_tiedGroups σ = some (r, σ')) : Ctr Γ l y_OR_tiedGroups c_OR_tiedGroups 3 (some .int) 3 66 [.ref (Γ.2.2.1 100)] σ σ' (some (.int r)) := by
  refine Ctr.of (lv := [(0, .ref (Γ.2.2.1 100))]) (by decide +kernel) (Nat.le_of_ble_eq_true rfl) rfl ?_
  intro p e s m args below meth c X hr hk9
  have X : Cx Γ p (z_rm 3 66) s m args c c_OR_tiedGroups 3 "CaptionTallies$Order" 0 0 := X
  rw [f_OR_tiedGroups] at hf
  refine g_iconst X d_OR_tiedGroups_0 (v := (nI 0)) rfl ?_
  refine g_istore_n X d_OR_tiedGroups_1 rfl (lv' := [(1, .int (nI 0)), (0, .ref (Γ.2.2.1 100))]) (Nat.le_of_ble_eq_true rfl) rfl ?_
  refine g_iconst X d_OR_tiedGroups_2 (v := (nI 0)) rfl ?_
  refine g_istore_n X d_OR_tiedGroups_3 rfl (lv' := [(2, .int (nI 0)), (1, .int (nI 0)), (0, .ref (Γ.2.2.1 100))]) (Nat.le_of_ble_eq_true rfl) rfl ?_
  refine g_sub [2, 1, 0] rfl ?_
  exact w_OR_tiedGroups_4 X hr hk9 _ _ _ _ hf
section
variable {R : Room} {kc ks : Nat} {Q : State → Prop} {nL : Nat} {cc : ByteArray} {own : String} {pc : Nat} {lv lv' : List (Nat × Value)} {st : List Value}
theorem ca_OR_tiedGroups (X : Cx Γ p R s m args c cc nL own kc ks) {idx : Nat} (hd : decode cc pc = .ok (.invokevirtual idx, 3)) (hlk : Cond.methodLink own idx y_OR_tiedGroups ∈ lw_gt) (hR : 3 + 1 ≤ R.frames ∧ 8 + (3 + 11) + 66 ≤ R.locals) (hw : (st.map fun v => v.category).sum ≤ 8) {σ σ' : Sg} {r : Int32} (hf : f_OR_tiedGroups σ = some (r, σ')) (k : G Γ p l e R s m args below meth c kc ks Q nL (pc + 3) lv (.int r :: st) σ') : G Γ p l e R s m args below meth c kc ks Q nL pc lv (.ref (Γ.2.2.1 100) :: st) σ :=
  g_callV (As := []) (rest := st) X hd (c_OR_tiedGroups' hf) co_OR_tiedGroups hlk wn_OR_tiedGroups wse_OR_tiedGroups (by decide) kd_100 rfl hR rfl rfl hw k
end
set_option maxRecDepth 10000 in
theorem w_SH_inAll_4 {r : Int32} {σ' : Sg} (X : Cx Γ p (z_rm 0 0) s m args c c_SH_inAll 3 "CaptionTallies$Shares" 0 0) (hr : meth.sig.returnType = (some .int)) (hk9 : meth.locks = false) : ∀ (n9 : Nat) (x1 : Int32) (x2 : Int32) (σ : Sg), f_SH_inAll_4 n9 x1 x2 σ = some (r, σ') → G Γ p l e (z_rm 0 0) s m args below meth c 0 0 (MQ below (Qx Γ (some (.int r)) σ') args s 0 0 (fun q : Nat => Γ.2.2.2 ≤ q)) 3 4 [(0, .ref (Γ.2.2.1 105)), (1, .int x1), (2, .int x2)] [] σ := by
  intro n9
  induction n9 with
  | zero => intro x1 x2 σ hf; cases hf
  | succ n9 ih =>
    intro x1 x2 σ hf
    rw [f_SH_inAll_4] at hf
    refine g_iload_n X d_SH_inAll_4 2 rfl ?_
    refine g_bipush X d_SH_inAll_5 (v := (nI 20)) rfl ?_
    refine g_ic_ge X d_SH_inAll_7 25 (by decide) (fun q1 => ?_) (fun q1 => ?_)
    · have hf := ite_t q1 hf
      refine g_iload_n X d_SH_inAll_25 1 rfl ?_
      exact g_iret X d_SH_inAll_26 hr hk9 hf
    · have hf := ite_f q1 hf
      refine g_iload_n X d_SH_inAll_10 1 rfl ?_
      refine g_aload_n X d_SH_inAll_11 0 rfl ?_
      refine gf_105_1 X d_SH_inAll_12 wl_SH_15 ?_
      refine g_iload_n X d_SH_inAll_15 2 rfl ?_
      obtain ⟨b2, hf⟩ := gd_some hf
      refine g_iald X d_SH_inAll_16 kd_107 b2 ?_
      refine g_iadd X d_SH_inAll_17 ?_
      obtain ⟨v3, ev3, hf⟩ := lt_ex hf
      refine g_top ev3 ?_
      refine g_istore_n X d_SH_inAll_18 rfl (lv' := [(1, .int v3), (0, .ref (Γ.2.2.1 105)), (2, .int x2)]) (Nat.le_of_ble_eq_true rfl) rfl ?_
      refine g_iinc X d_SH_inAll_19 (j := 2) (lv' := [(2, .int (x2 + (nI 1))), (1, .int v3), (0, .ref (Γ.2.2.1 105))]) rfl rfl (Nat.le_of_ble_eq_true rfl) rfl ?_
      refine g_goto X d_SH_inAll_22 4 (by decide) ?_
      refine g_sub [2, 1, 0] rfl ?_
      exact ih _ _ _ hf
set_option maxRecDepth 10000 in
theorem c_SH_inAll' {Γ : Gm} {l : Launch} {σ σ' : Sg} {r : Int32} (hf : f_SH_inAll σ = some (r, σ')) : Ctr Γ l y_SH_inAll c_SH_inAll 3 (some .int) 0 0 [.ref (Γ.2.2.1 105)] σ σ' (some (.int r)) := by
  refine Ctr.of (lv := [(0, .ref (Γ.2.2.1 105))]) (by decide +kernel) (Nat.le_of_ble_eq_true rfl) rfl ?_
  intro p e s m args below meth c X hr hk9
  have X : Cx Γ p (z_rm 0 0) s m args c c_SH_inAll 3 "CaptionTallies$Shares" 0 0 := X
  rw [f_SH_inAll] at hf
  refine g_iconst X d_SH_inAll_0 (v := (nI 0)) rfl ?_
  refine g_istore_n X d_SH_inAll_1 rfl (lv' := [(1, .int (nI 0)), (0, .ref (Γ.2.2.1 105))]) (Nat.le_of_ble_eq_true rfl) rfl ?_
  refine g_iconst X d_SH_inAll_2 (v := (nI 0)) rfl ?_
  refine g_istore_n X d_SH_inAll_3 rfl (lv' := [(2, .int (nI 0)), (1, .int (nI 0)), (0, .ref (Γ.2.2.1 105))]) (Nat.le_of_ble_eq_true rfl) rfl ?_
  refine g_sub [2, 1, 0] rfl ?_
  exact w_SH_inAll_4 X hr hk9 _ _ _ _ hf
section
variable {R : Room} {kc ks : Nat} {Q : State → Prop} {nL : Nat} {cc : ByteArray} {own : String} {pc : Nat} {lv lv' : List (Nat × Value)} {st : List Value}
theorem ca_SH_inAll (X : Cx Γ p R s m args c cc nL own kc ks) {idx : Nat} (hd : decode cc pc = .ok (.invokevirtual idx, 3)) (hlk : Cond.methodLink own idx y_SH_inAll ∈ lw_gt) (hR : 0 + 1 ≤ R.frames ∧ 8 + (3 + 11) + 0 ≤ R.locals) (hw : (st.map fun v => v.category).sum ≤ 8) {σ σ' : Sg} {r : Int32} (hf : f_SH_inAll σ = some (r, σ')) (k : G Γ p l e R s m args below meth c kc ks Q nL (pc + 3) lv (.int r :: st) σ') : G Γ p l e R s m args below meth c kc ks Q nL pc lv (.ref (Γ.2.2.1 105) :: st) σ :=
  g_callV (As := []) (rest := st) X hd (c_SH_inAll' hf) co_SH_inAll hlk wn_SH_inAll wse_SH_inAll (by decide) kd_105 rfl hR rfl rfl hw k
end
set_option maxRecDepth 10000 in
theorem w_ST_linksInAll_14 {K4 : Int32 → Int32 → Sg → Option (Int32 × Sg)} {r : Int32} {σ' : Sg} (X : Cx Γ p (z_rm 2 43) s m args c c_ST_linksInAll 4 "CaptionTallies$State" 0 0) (hr : meth.sig.returnType = (some .int)) (hk9 : meth.locks = false) (hK4 : ∀ (x1 : Int32) (x2 : Int32) (σ : Sg), K4 x1 x2 σ = some (r, σ') → G Γ p l e (z_rm 2 43) s m args below meth c 0 0 (MQ below (Qx Γ (some (.int r)) σ') args s 0 0 (fun q : Nat => Γ.2.2.2 ≤ q)) 4 4 [(0, .ref (Γ.2.2.1 0)), (1, .int x1), (2, .int x2)] [] σ) : ∀ (n9 : Nat) (x1 : Int32) (x2 : Int32) (x3 : Int32) (σ : Sg), f_ST_linksInAll_14 K4 n9 x1 x2 x3 σ = some (r, σ') → G Γ p l e (z_rm 2 43) s m args below meth c 0 0 (MQ below (Qx Γ (some (.int r)) σ') args s 0 0 (fun q : Nat => Γ.2.2.2 ≤ q)) 4 14 [(0, .ref (Γ.2.2.1 0)), (1, .int x1), (2, .int x2), (3, .int x3)] [] σ := by
  intro n9
  induction n9 with
  | zero => intro x1 x2 x3 σ hf; cases hf
  | succ n9 ih =>
    intro x1 x2 x3 σ hf
    rw [f_ST_linksInAll_14] at hf
    refine g_iload_n X d_ST_linksInAll_14 3 rfl ?_
    refine g_bipush X d_ST_linksInAll_15 (v := (nI 20)) rfl ?_
    refine g_ic_ge X d_ST_linksInAll_17 38 (by decide) (fun q1 => ?_) (fun q1 => ?_)
    · have hf := ite_t q1 hf
      refine g_iinc X d_ST_linksInAll_38 (j := 2) (lv' := [(2, .int (x2 + (nI 1))), (0, .ref (Γ.2.2.1 0)), (1, .int x1), (3, .int x3)]) rfl rfl (Nat.le_of_ble_eq_true rfl) rfl ?_
      refine g_goto X d_ST_linksInAll_41 4 (by decide) ?_
      refine g_sub [1, 2, 0] rfl ?_
      exact hK4 _ _ _ hf
    · have hf := ite_f q1 hf
      refine g_aload_n X d_ST_linksInAll_20 0 rfl ?_
      refine g_iload_n X d_ST_linksInAll_21 2 rfl ?_
      refine g_iload_n X d_ST_linksInAll_22 3 rfl ?_
      obtain ⟨r2, σ3, er2, hf⟩ := bd_some hf
      refine ca_ST_areLinked X d_ST_linksInAll_23 wl_ST_128 ⟨Nat.le_of_ble_eq_true rfl, Nat.le_of_ble_eq_true rfl⟩ (sum8 rfl) er2 ?_
      refine g_if_eq X d_ST_linksInAll_26 32 (by decide) (fun q4 => ?_) (fun q4 => ?_)
      · have hf := ite_t q4 hf
        refine g_iinc X d_ST_linksInAll_32 (j := 3) (lv' := [(3, .int (x3 + (nI 1))), (0, .ref (Γ.2.2.1 0)), (1, .int x1), (2, .int x2)]) rfl rfl (Nat.le_of_ble_eq_true rfl) rfl ?_
        refine g_goto X d_ST_linksInAll_35 14 (by decide) ?_
        refine g_sub [1, 2, 3, 0] rfl ?_
        exact ih _ _ _ _ hf
      · have hf := ite_f q4 hf
        refine g_iinc X d_ST_linksInAll_29 (j := 1) (lv' := [(1, .int (x1 + (nI 1))), (0, .ref (Γ.2.2.1 0)), (2, .int x2), (3, .int x3)]) rfl rfl (Nat.le_of_ble_eq_true rfl) rfl ?_
        refine g_iinc X d_ST_linksInAll_32 (j := 3) (lv' := [(3, .int (x3 + (nI 1))), (1, .int (x1 + (nI 1))), (0, .ref (Γ.2.2.1 0)), (2, .int x2)]) rfl rfl (Nat.le_of_ble_eq_true rfl) rfl ?_
        refine g_goto X d_ST_linksInAll_35 14 (by decide) ?_
        refine g_sub [2, 1, 3, 0] rfl ?_
        exact ih _ _ _ _ hf
set_option maxRecDepth 10000 in
theorem w_ST_linksInAll_4 {r : Int32} {σ' : Sg} (X : Cx Γ p (z_rm 2 43) s m args c c_ST_linksInAll 4 "CaptionTallies$State" 0 0) (hr : meth.sig.returnType = (some .int)) (hk9 : meth.locks = false) : ∀ (n9 : Nat) (x1 : Int32) (x2 : Int32) (σ : Sg), f_ST_linksInAll_4 n9 x1 x2 σ = some (r, σ') → G Γ p l e (z_rm 2 43) s m args below meth c 0 0 (MQ below (Qx Γ (some (.int r)) σ') args s 0 0 (fun q : Nat => Γ.2.2.2 ≤ q)) 4 4 [(0, .ref (Γ.2.2.1 0)), (1, .int x1), (2, .int x2)] [] σ := by
  intro n9
  induction n9 with
  | zero => intro x1 x2 σ hf; cases hf
  | succ n9 ih =>
    intro x1 x2 σ hf
    rw [f_ST_linksInAll_4] at hf
    refine g_iload_n X d_ST_linksInAll_4 2 rfl ?_
    refine g_bipush X d_ST_linksInAll_5 (v := (nI 20)) rfl ?_
    refine g_ic_ge X d_ST_linksInAll_7 44 (by decide) (fun q1 => ?_) (fun q1 => ?_)
    · have hf := ite_t q1 hf
      refine g_iload_n X d_ST_linksInAll_44 1 rfl ?_
      exact g_iret X d_ST_linksInAll_45 hr hk9 hf
    · have hf := ite_f q1 hf
      refine g_iload_n X d_ST_linksInAll_10 2 rfl ?_
      refine g_iconst X d_ST_linksInAll_11 (v := (nI 1)) rfl ?_
      refine g_iadd X d_ST_linksInAll_12 ?_
      obtain ⟨v2, ev2, hf⟩ := lt_ex hf
      refine g_top ev2 ?_
      refine g_istore_n X d_ST_linksInAll_13 rfl (lv' := [(3, .int v2), (0, .ref (Γ.2.2.1 0)), (1, .int x1), (2, .int x2)]) (Nat.le_of_ble_eq_true rfl) rfl ?_
      refine g_sub [1, 2, 3, 0] rfl ?_
      exact w_ST_linksInAll_14 X hr hk9 ih _ _ _ _ _ hf
set_option maxRecDepth 10000 in
theorem c_ST_linksInAll' {Γ : Gm} {l : Launch} {σ σ' : Sg} {r : Int32} (hf : f_ST_linksInAll σ = some (r, σ')) : Ctr Γ l y_ST_linksInAll c_ST_linksInAll 4 (some .int) 2 43 [.ref (Γ.2.2.1 0)] σ σ' (some (.int r)) := by
  refine Ctr.of (lv := [(0, .ref (Γ.2.2.1 0))]) (by decide +kernel) (Nat.le_of_ble_eq_true rfl) rfl ?_
  intro p e s m args below meth c X hr hk9
  have X : Cx Γ p (z_rm 2 43) s m args c c_ST_linksInAll 4 "CaptionTallies$State" 0 0 := X
  rw [f_ST_linksInAll] at hf
  refine g_iconst X d_ST_linksInAll_0 (v := (nI 0)) rfl ?_
  refine g_istore_n X d_ST_linksInAll_1 rfl (lv' := [(1, .int (nI 0)), (0, .ref (Γ.2.2.1 0))]) (Nat.le_of_ble_eq_true rfl) rfl ?_
  refine g_iconst X d_ST_linksInAll_2 (v := (nI 0)) rfl ?_
  refine g_istore_n X d_ST_linksInAll_3 rfl (lv' := [(2, .int (nI 0)), (1, .int (nI 0)), (0, .ref (Γ.2.2.1 0))]) (Nat.le_of_ble_eq_true rfl) rfl ?_
  refine g_sub [2, 1, 0] rfl ?_
  exact w_ST_linksInAll_4 X hr hk9 _ _ _ _ hf
section
variable {R : Room} {kc ks : Nat} {Q : State → Prop} {nL : Nat} {cc : ByteArray} {own : String} {pc : Nat} {lv lv' : List (Nat × Value)} {st : List Value}
theorem ca_ST_linksInAll (X : Cx Γ p R s m args c cc nL own kc ks) {idx : Nat} (hd : decode cc pc = .ok (.invokevirtual idx, 3)) (hlk : Cond.methodLink own idx y_ST_linksInAll ∈ lw_gt) (hR : 2 + 1 ≤ R.frames ∧ 8 + (4 + 11) + 43 ≤ R.locals) (hw : (st.map fun v => v.category).sum ≤ 8) {σ σ' : Sg} {r : Int32} (hf : f_ST_linksInAll σ = some (r, σ')) (k : G Γ p l e R s m args below meth c kc ks Q nL (pc + 3) lv (.int r :: st) σ') : G Γ p l e R s m args below meth c kc ks Q nL pc lv (.ref (Γ.2.2.1 0) :: st) σ :=
  g_callV (As := []) (rest := st) X hd (c_ST_linksInAll' hf) co_ST_linksInAll hlk wn_ST_linksInAll wse_ST_linksInAll (by decide) kd_0 rfl hR rfl rfl hw k
end
set_option maxRecDepth 10000 in
theorem w_CT_count_48 {r : Int32} {σ' : Sg} (X : Cx Γ p (z_rm 6 137) s m args c c_CT_count 2 "CaptionTallies" 0 0) (hr : meth.sig.returnType = (some .int)) (hk9 : meth.locks = false)  (x1 : Int32) (σ : Sg) (hf : f_CT_count_48 x1 σ = some (r, σ')) : G Γ p l e (z_rm 6 137) s m args below meth c 0 0 (MQ below (Qx Γ (some (.int r)) σ') args s 0 0 (fun q : Nat => Γ.2.2.2 ≤ q)) 2 48 [(0, .ref (Γ.2.2.1 111)), (1, .int x1)] [] σ := by
  rw [f_CT_count_48] at hf
  refine g_aload_n X d_CT_count_48 0 rfl ?_
  obtain ⟨r1, σ2, er1, hf⟩ := bd_some hf
  refine ca_CT_tally X d_CT_count_49 wl_CT_215 ⟨Nat.le_of_ble_eq_true rfl, Nat.le_of_ble_eq_true rfl⟩ (sum8 rfl) er1 ?_
  refine g_iload_n X d_CT_count_52 1 rfl ?_
  by_cases q3 : x1 = (nI 0)
  · have hf := ite_t q3 hf
    refine g_tsIn X d_CT_count_53 120 (by rw [q3]; decide) (by rw [q3]; decide) (by rw [q3]; rfl) (by decide) ?_
    refine g_aload_n X d_CT_count_120 0 rfl ?_
    refine gf_111_1 X d_CT_count_121 wl_CT_19 ?_
    obtain ⟨r4, σ5, er4, hf⟩ := bd_some hf
    refine ca_ST_captionsIn X d_CT_count_124 wl_CT_113 ⟨Nat.le_of_ble_eq_true rfl, Nat.le_of_ble_eq_true rfl⟩ (sum8 rfl) er4 ?_
    exact g_iret X d_CT_count_127 hr hk9 hf
  have hf := ite_f q3 hf
  by_cases q6 : x1 = (nI 1)
  · have hf := ite_t q6 hf
    refine g_tsIn X d_CT_count_53 128 (by rw [q6]; decide) (by rw [q6]; decide) (by rw [q6]; rfl) (by decide) ?_
    refine g_aload_n X d_CT_count_128 0 rfl ?_
    refine gf_111_1 X d_CT_count_129 wl_CT_19 ?_
    obtain ⟨r7, σ8, er7, hf⟩ := bd_some hf
    refine ca_ST_captionsSoFar X d_CT_count_132 wl_CT_94 ⟨Nat.le_of_ble_eq_true rfl, Nat.le_of_ble_eq_true rfl⟩ (sum8 rfl) er7 ?_
    exact g_iret X d_CT_count_135 hr hk9 hf
  have hf := ite_f q6 hf
  by_cases q9 : x1 = (nI 2)
  · have hf := ite_t q9 hf
    refine g_tsIn X d_CT_count_53 136 (by rw [q9]; decide) (by rw [q9]; decide) (by rw [q9]; rfl) (by decide) ?_
    refine g_aload_n X d_CT_count_136 0 rfl ?_
    refine gf_111_5 X d_CT_count_137 wl_CT_40 ?_
    obtain ⟨r10, σ11, er10, hf⟩ := bd_some hf
    refine ca_GR_number X d_CT_count_140 wl_CT_292 ⟨Nat.le_of_ble_eq_true rfl, Nat.le_of_ble_eq_true rfl⟩ (sum8 rfl) er10 ?_
    exact g_iret X d_CT_count_143 hr hk9 hf
  have hf := ite_f q9 hf
  by_cases q12 : x1 = (nI 3)
  · have hf := ite_t q12 hf
    refine g_tsIn X d_CT_count_53 144 (by rw [q12]; decide) (by rw [q12]; decide) (by rw [q12]; rfl) (by decide) ?_
    refine g_aload_n X d_CT_count_144 0 rfl ?_
    refine gf_111_1 X d_CT_count_145 wl_CT_19 ?_
    obtain ⟨r13, σ14, er13, hf⟩ := bd_some hf
    refine ca_ST_linksInAll X d_CT_count_148 wl_CT_293 ⟨Nat.le_of_ble_eq_true rfl, Nat.le_of_ble_eq_true rfl⟩ (sum8 rfl) er13 ?_
    exact g_iret X d_CT_count_151 hr hk9 hf
  have hf := ite_f q12 hf
  by_cases q15 : x1 = (nI 4)
  · have hf := ite_t q15 hf
    refine g_tsIn X d_CT_count_53 152 (by rw [q15]; decide) (by rw [q15]; decide) (by rw [q15]; rfl) (by decide) ?_
    refine g_aload_n X d_CT_count_152 0 rfl ?_
    refine gf_111_6 X d_CT_count_153 wl_CT_47 ?_
    obtain ⟨r16, σ17, er16, hf⟩ := bd_some hf
    refine ca_CO_ballotsThatCount X d_CT_count_156 wl_CT_296 ⟨Nat.le_of_ble_eq_true rfl, Nat.le_of_ble_eq_true rfl⟩ (sum8 rfl) er16 ?_
    exact g_iret X d_CT_count_159 hr hk9 hf
  have hf := ite_f q15 hf
  by_cases q18 : x1 = (nI 5)
  · have hf := ite_t q18 hf
    refine g_tsIn X d_CT_count_53 160 (by rw [q18]; decide) (by rw [q18]; decide) (by rw [q18]; rfl) (by decide) ?_
    refine g_aload_n X d_CT_count_160 0 rfl ?_
    refine gf_111_6 X d_CT_count_161 wl_CT_47 ?_
    obtain ⟨r19, σ20, er19, hf⟩ := bd_some hf
    refine ca_CO_pointsInAll X d_CT_count_164 wl_CT_299 ⟨Nat.le_of_ble_eq_true rfl, Nat.le_of_ble_eq_true rfl⟩ (sum8 rfl) er19 ?_
    exact g_iret X d_CT_count_167 hr hk9 hf
  have hf := ite_f q18 hf
  by_cases q21 : x1 = (nI 6)
  · have hf := ite_t q21 hf
    refine g_tsIn X d_CT_count_53 168 (by rw [q21]; decide) (by rw [q21]; decide) (by rw [q21]; rfl) (by decide) ?_
    refine g_aload_n X d_CT_count_168 0 rfl ?_
    refine gf_111_10 X d_CT_count_169 wl_CT_75 ?_
    obtain ⟨r22, σ23, er22, hf⟩ := bd_some hf
    refine ca_SH_inAll X d_CT_count_172 wl_CT_302 ⟨Nat.le_of_ble_eq_true rfl, Nat.le_of_ble_eq_true rfl⟩ (sum8 rfl) er22 ?_
    exact g_iret X d_CT_count_175 hr hk9 hf
  have hf := ite_f q21 hf
  by_cases q24 : x1 = (nI 7)
  · have hf := ite_t q24 hf
    refine g_tsIn X d_CT_count_53 200 (by rw [q24]; decide) (by rw [q24]; decide) (by rw [q24]; rfl) (by decide) ?_
    refine g_bipush X d_CT_count_200 (v := (-2)) rfl ?_
    exact g_iret X d_CT_count_202 hr hk9 hf
  have hf := ite_f q24 hf
  by_cases q25 : x1 = (nI 8)
  · have hf := ite_t q25 hf
    refine g_tsIn X d_CT_count_53 200 (by rw [q25]; decide) (by rw [q25]; decide) (by rw [q25]; rfl) (by decide) ?_
    refine g_bipush X d_CT_count_200 (v := (-2)) rfl ?_
    exact g_iret X d_CT_count_202 hr hk9 hf
  have hf := ite_f q25 hf
  by_cases q26 : x1 = (nI 9)
  · have hf := ite_t q26 hf
    refine g_tsIn X d_CT_count_53 200 (by rw [q26]; decide) (by rw [q26]; decide) (by rw [q26]; rfl) (by decide) ?_
    refine g_bipush X d_CT_count_200 (v := (-2)) rfl ?_
    exact g_iret X d_CT_count_202 hr hk9 hf
  have hf := ite_f q26 hf
  by_cases q27 : x1 = (nI 10)
  · have hf := ite_t q27 hf
    refine g_tsIn X d_CT_count_53 176 (by rw [q27]; decide) (by rw [q27]; decide) (by rw [q27]; rfl) (by decide) ?_
    refine g_aload_n X d_CT_count_176 0 rfl ?_
    refine gf_111_9 X d_CT_count_177 wl_CT_68 ?_
    obtain ⟨r28, σ29, er28, hf⟩ := bd_some hf
    refine ca_OR_tiedGroups X d_CT_count_180 wl_CT_305 ⟨Nat.le_of_ble_eq_true rfl, Nat.le_of_ble_eq_true rfl⟩ (sum8 rfl) er28 ?_
    exact g_iret X d_CT_count_183 hr hk9 hf
  have hf := ite_f q27 hf
  by_cases q30 : x1 = (nI 11)
  · have hf := ite_t q30 hf
    refine g_tsIn X d_CT_count_53 184 (by rw [q30]; decide) (by rw [q30]; decide) (by rw [q30]; rfl) (by decide) ?_
    refine g_aload_n X d_CT_count_184 0 rfl ?_
    refine gf_111_2 X d_CT_count_185 wl_CT_26 ?_
    obtain ⟨r31, σ32, er31, hf⟩ := bd_some hf
    refine ca_HI_size X d_CT_count_188 wl_CT_194 ⟨Nat.le_of_ble_eq_true rfl, Nat.le_of_ble_eq_true rfl⟩ (sum8 rfl) er31 ?_
    exact g_iret X d_CT_count_191 hr hk9 hf
  have hf := ite_f q30 hf
  by_cases q33 : x1 = (nI 12)
  · have hf := ite_t q33 hf
    refine g_tsIn X d_CT_count_53 192 (by rw [q33]; decide) (by rw [q33]; decide) (by rw [q33]; rfl) (by decide) ?_
    refine g_aload_n X d_CT_count_192 0 rfl ?_
    refine gf_111_0 X d_CT_count_193 wl_CT_10 ?_
    obtain ⟨r34, σ35, er34, hf⟩ := bd_some hf
    refine ca_DR_length X d_CT_count_196 wl_CT_184 ⟨Nat.le_of_ble_eq_true rfl, Nat.le_of_ble_eq_true rfl⟩ (sum8 rfl) er34 ?_
    exact g_iret X d_CT_count_199 hr hk9 hf
  have hf := ite_f q33 hf
  refine g_tsOut X d_CT_count_53 200 (ts_out 13 (by decide) (fun k hk => by rcases (show k = 0 ∨ k = 1 ∨ k = 2 ∨ k = 3 ∨ k = 4 ∨ k = 5 ∨ k = 6 ∨ k = 7 ∨ k = 8 ∨ k = 9 ∨ k = 10 ∨ k = 11 ∨ k = 12 by omega) with rfl | rfl | rfl | rfl | rfl | rfl | rfl | rfl | rfl | rfl | rfl | rfl | rfl <;> assumption)) (by decide) ?_
  refine g_bipush X d_CT_count_200 (v := (-2)) rfl ?_
  exact g_iret X d_CT_count_202 hr hk9 hf
set_option maxRecDepth 10000 in
theorem w_CT_count_24 {r : Int32} {σ' : Sg} (X : Cx Γ p (z_rm 6 137) s m args c c_CT_count 2 "CaptionTallies" 0 0) (hr : meth.sig.returnType = (some .int)) (hk9 : meth.locks = false)  (x1 : Int32) (σ : Sg) (hf : f_CT_count_24 x1 σ = some (r, σ')) : G Γ p l e (z_rm 6 137) s m args below meth c 0 0 (MQ below (Qx Γ (some (.int r)) σ') args s 0 0 (fun q : Nat => Γ.2.2.2 ≤ q)) 2 24 [(0, .ref (Γ.2.2.1 111)), (1, .int x1)] [] σ := by
  rw [f_CT_count_24] at hf
  refine g_iload_n X d_CT_count_24 1 rfl ?_
  refine g_bipush X d_CT_count_25 (v := (nI 21)) rfl ?_
  refine g_ic_lt X d_CT_count_27 48 (by decide) (fun q1 => ?_) (fun q1 => ?_)
  · have hf := ite_t q1 hf
    exact w_CT_count_48 X hr hk9 _ _ hf
  · have hf := ite_f q1 hf
    refine g_iload_n X d_CT_count_30 1 rfl ?_
    refine g_bipush X d_CT_count_31 (v := (nI 25)) rfl ?_
    refine g_ic_gt X d_CT_count_33 48 (by decide) (fun q2 => ?_) (fun q2 => ?_)
    · have hf := ite_t q2 hf
      exact w_CT_count_48 X hr hk9 _ _ hf
    · have hf := ite_f q2 hf
      refine g_aload_n X d_CT_count_36 0 rfl ?_
      refine gf_111_1 X d_CT_count_37 wl_CT_19 ?_
      refine g_iload_n X d_CT_count_40 1 rfl ?_
      refine g_bipush X d_CT_count_41 (v := (nI 20)) rfl ?_
      refine g_isub X d_CT_count_43 ?_
      obtain ⟨r3, σ4, er3, hf⟩ := bd_some hf
      refine ca_ST_prizeOf X d_CT_count_44 wl_CT_178 ⟨Nat.le_of_ble_eq_true rfl, Nat.le_of_ble_eq_true rfl⟩ (sum8 rfl) er3 ?_
      exact g_iret X d_CT_count_47 hr hk9 hf
set_option maxRecDepth 10000 in
theorem c_CT_count' {Γ : Gm} {l : Launch} {x1 : Int32} {σ σ' : Sg} {r : Int32} (hf : f_CT_count x1 σ = some (r, σ')) : Ctr Γ l y_CT_count c_CT_count 2 (some .int) 6 137 [.ref (Γ.2.2.1 111), .int x1] σ σ' (some (.int r)) := by
  refine Ctr.of (lv := [(0, .ref (Γ.2.2.1 111)), (1, .int x1)]) (by decide +kernel) (Nat.le_of_ble_eq_true rfl) rfl ?_
  intro p e s m args below meth c X hr hk9
  have X : Cx Γ p (z_rm 6 137) s m args c c_CT_count 2 "CaptionTallies" 0 0 := X
  rw [f_CT_count] at hf
  refine g_iload_n X d_CT_count_0 1 rfl ?_
  refine g_bipush X d_CT_count_1 (v := (nI 7)) rfl ?_
  refine g_ic_lt X d_CT_count_3 24 (by decide) (fun q1 => ?_) (fun q1 => ?_)
  · have hf := ite_t q1 hf
    exact w_CT_count_24 X hr hk9 _ _ hf
  · have hf := ite_f q1 hf
    refine g_iload_n X d_CT_count_6 1 rfl ?_
    refine g_bipush X d_CT_count_7 (v := (nI 9)) rfl ?_
    refine g_ic_gt X d_CT_count_9 24 (by decide) (fun q2 => ?_) (fun q2 => ?_)
    · have hf := ite_t q2 hf
      exact w_CT_count_24 X hr hk9 _ _ hf
    · have hf := ite_f q2 hf
      refine g_aload_n X d_CT_count_12 0 rfl ?_
      refine gf_111_1 X d_CT_count_13 wl_CT_19 ?_
      refine g_iload_n X d_CT_count_16 1 rfl ?_
      refine g_bipush X d_CT_count_17 (v := (nI 7)) rfl ?_
      refine g_isub X d_CT_count_19 ?_
      obtain ⟨r3, σ4, er3, hf⟩ := bd_some hf
      refine ca_ST_setting X d_CT_count_20 wl_CT_172 ⟨Nat.le_of_ble_eq_true rfl, Nat.le_of_ble_eq_true rfl⟩ (sum8 rfl) er3 ?_
      exact g_iret X d_CT_count_23 hr hk9 hf
section
variable {R : Room} {kc ks : Nat} {Q : State → Prop} {nL : Nat} {cc : ByteArray} {own : String} {pc : Nat} {lv lv' : List (Nat × Value)} {st : List Value}
theorem ca_CT_count {x1 : Int32} (X : Cx Γ p R s m args c cc nL own kc ks) {idx : Nat} (hd : decode cc pc = .ok (.invokevirtual idx, 3)) (hlk : Cond.methodLink own idx y_CT_count ∈ lw_gt) (hR : 6 + 1 ≤ R.frames ∧ 8 + (2 + 11) + 137 ≤ R.locals) (hw : (st.map fun v => v.category).sum ≤ 8) {σ σ' : Sg} {r : Int32} (hf : f_CT_count x1 σ = some (r, σ')) (k : G Γ p l e R s m args below meth c kc ks Q nL (pc + 3) lv (.int r :: st) σ') : G Γ p l e R s m args below meth c kc ks Q nL pc lv (.int x1 :: .ref (Γ.2.2.1 111) :: st) σ :=
  g_callV (As := [.int x1]) (rest := st) X hd (c_CT_count' hf) co_CT_count hlk wn_CT_count wse_CT_count (by decide) kd_111 rfl hR rfl rfl hw k
end
set_option maxRecDepth 10000 in
theorem c_MO_in' {Γ : Gm} {l : Launch} {x0 : Int32} {x1 : Int32} {x2 : Int32} {σ σ' : Sg} {r : Int32} (hf : f_MO_in x0 x1 x2 σ = some (r, σ')) : Ctr Γ l y_MO_in c_MO_in 3 (some .boolean) 0 0 [.int x0, .int x1, .int x2] σ σ' (some (.int r)) := by
  refine Ctr.of (lv := [(0, .int x0), (1, .int x1), (2, .int x2)]) (by decide +kernel) (Nat.le_of_ble_eq_true rfl) rfl ?_
  intro p e s m args below meth c X hr hk9
  have X : Cx Γ p (z_rm 0 0) s m args c c_MO_in 3 "CaptionTalliesModel" 0 0 := X
  rw [f_MO_in] at hf
  refine g_iload_n X d_MO_in_0 0 rfl ?_
  refine g_iload_n X d_MO_in_1 1 rfl ?_
  refine g_ic_lt X d_MO_in_2 14 (by decide) (fun q1 => ?_) (fun q1 => ?_)
  · have hf := ite_t q1 hf
    refine g_iconst X d_MO_in_14 (v := (nI 0)) rfl ?_
    exact g_zret X d_MO_in_15 hr hk9 rfl hf
  · have hf := ite_f q1 hf
    refine g_iload_n X d_MO_in_5 0 rfl ?_
    refine g_iload_n X d_MO_in_6 2 rfl ?_
    refine g_ic_gt X d_MO_in_7 14 (by decide) (fun q2 => ?_) (fun q2 => ?_)
    · have hf := ite_t q2 hf
      refine g_iconst X d_MO_in_14 (v := (nI 0)) rfl ?_
      exact g_zret X d_MO_in_15 hr hk9 rfl hf
    · have hf := ite_f q2 hf
      refine g_iconst X d_MO_in_10 (v := (nI 1)) rfl ?_
      refine g_goto X d_MO_in_11 15 (by decide) ?_
      exact g_zret X d_MO_in_15 hr hk9 rfl hf
section
variable {R : Room} {kc ks : Nat} {Q : State → Prop} {nL : Nat} {cc : ByteArray} {own : String} {pc : Nat} {lv lv' : List (Nat × Value)} {st : List Value}
theorem ca_MO_in {x0 : Int32} {x1 : Int32} {x2 : Int32} (X : Cx Γ p R s m args c cc nL own kc ks) {idx : Nat} (hd : decode cc pc = .ok (.invokestatic idx, 3)) (hlk : Cond.methodLink own idx y_MO_in ∈ lw_gt) (hR : 0 + 1 ≤ R.frames ∧ 8 + (3 + 11) + 0 ≤ R.locals) (hw : (st.map fun v => v.category).sum ≤ 8) {σ σ' : Sg} {r : Int32} (hf : f_MO_in x0 x1 x2 σ = some (r, σ')) (k : G Γ p l e R s m args below meth c kc ks Q nL (pc + 3) lv (.int r :: st) σ') : G Γ p l e R s m args below meth c kc ks Q nL pc lv (.int x2 :: .int x1 :: .int x0 :: st) σ :=
  g_callS (As := [.int x0, .int x1, .int x2]) (rest := st) X hd (c_MO_in' hf) co_MO_in hlk wn_MO_in hR rfl rfl hw k
theorem can_MO_in {x0 : Int32} {x1 : Int32} {x2 : Int32} (X : Cx Γ p R s m args c cc nL own kc ks) {idx : Nat} (hd : decode cc pc = .ok (.invokestatic idx, 3)) (hlk : (own, idx, y_MO_in) ∈ z_nests) (hR : 0 + 1 ≤ R.frames ∧ 8 + (3 + 11) + 0 ≤ R.locals) (hw : (st.map fun v => v.category).sum ≤ 8) {σ σ' : Sg} {r : Int32} (hf : f_MO_in x0 x1 x2 σ = some (r, σ')) (k : G Γ p l e R s m args below meth c kc ks Q nL (pc + 3) lv (.int r :: st) σ') : G Γ p l e R s m args below meth c kc ks Q nL pc lv (.int x2 :: .int x1 :: .int x0 :: st) σ :=
  g_callSN (As := [.int x0, .int x1, .int x2]) (rest := st) X hd (c_MO_in' hf) co_MO_in hlk wn_MO_in hR rfl rfl hw k
end
set_option maxRecDepth 10000 in
theorem w_MO_record_51 {r : Int32} {σ' : Sg} (X : Cx Γ p (z_rm 0 0) s m args c c_MO_record 2 "CaptionTalliesModel" 0 0) (hr : meth.sig.returnType = none) (hk9 : meth.locks = false) : ∀ (n9 : Nat) (x1 : Int32) (σ : Sg), f_MO_record_51 n9 x1 σ = some (r, σ') → G Γ p l e (z_rm 0 0) s m args below meth c 0 0 (MQ below (Qx Γ none σ') args s 0 0 (fun q : Nat => Γ.2.2.2 ≤ q)) 2 51 [(0, .ref (Γ.2.2.1 112)), (1, .int x1)] [] σ := by
  intro n9
  induction n9 with
  | zero => intro x1 σ hf; cases hf
  | succ n9 ih =>
    intro x1 σ hf
    rw [f_MO_record_51] at hf
    refine g_iload_n X d_MO_record_51 1 rfl ?_
    refine g_sipush X d_MO_record_52 (v := (nI 1385)) rfl ?_
    refine g_ic_ge X d_MO_record_55 85 (by decide) (fun q1 => ?_) (fun q1 => ?_)
    · have hf := ite_t q1 hf
      refine g_aload_n X d_MO_record_85 0 rfl ?_
      refine g_dup X d_MO_record_86 rfl ?_
      refine gf_112_4 X d_MO_record_87 wl_MO_70 ?_
      refine g_iconst X d_MO_record_90 (v := (nI 1)) rfl ?_
      refine g_iadd X d_MO_record_91 ?_
      obtain ⟨σ2, eσ2, hf⟩ := lt_ex hf
      refine gp_112_4 X d_MO_record_92 wl_MO_70 eσ2 ?_
      exact g_vret X d_MO_record_95 hr hk9 hf
    · have hf := ite_f q1 hf
      refine g_aload_n X d_MO_record_58 0 rfl ?_
      refine gf_112_2 X d_MO_record_59 wl_MO_16 ?_
      refine g_sipush X d_MO_record_62 (v := (nI 1385)) rfl ?_
      refine g_aload_n X d_MO_record_65 0 rfl ?_
      refine gf_112_4 X d_MO_record_66 wl_MO_70 ?_
      refine g_imul X d_MO_record_69 ?_
      refine g_iload_n X d_MO_record_70 1 rfl ?_
      refine g_iadd X d_MO_record_71 ?_
      refine g_aload_n X d_MO_record_72 0 rfl ?_
      refine gf_112_0 X d_MO_record_73 wl_MO_7 ?_
      refine g_iload_n X d_MO_record_76 1 rfl ?_
      obtain ⟨b3, hf⟩ := gd_some hf
      refine g_iald X d_MO_record_77 kd_113 b3 ?_
      obtain ⟨b4, hf⟩ := gd_some hf
      obtain ⟨σ5, eσ5, hf⟩ := lt_ex hf
      refine g_iast X d_MO_record_78 kd_115 b4 eσ5 ?_
      refine g_iinc X d_MO_record_79 (j := 1) (lv' := [(1, .int (x1 + (nI 1))), (0, .ref (Γ.2.2.1 112))]) rfl rfl (Nat.le_of_ble_eq_true rfl) rfl ?_
      refine g_goto X d_MO_record_82 51 (by decide) ?_
      refine g_sub [1, 0] rfl ?_
      exact ih _ _ hf
set_option maxRecDepth 10000 in
theorem w_MO_record_10 {r : Int32} {σ' : Sg} (X : Cx Γ p (z_rm 0 0) s m args c c_MO_record 2 "CaptionTalliesModel" 0 0) (hr : meth.sig.returnType = none) (hk9 : meth.locks = false) : ∀ (n9 : Nat) (x1 : Int32) (σ : Sg), f_MO_record_10 n9 x1 σ = some (r, σ') → G Γ p l e (z_rm 0 0) s m args below meth c 0 0 (MQ below (Qx Γ none σ') args s 0 0 (fun q : Nat => Γ.2.2.2 ≤ q)) 2 10 [(0, .ref (Γ.2.2.1 112)), (1, .int x1)] [] σ := by
  intro n9
  induction n9 with
  | zero => intro x1 σ hf; cases hf
  | succ n9 ih =>
    intro x1 σ hf
    rw [f_MO_record_10] at hf
    refine g_iload_n X d_MO_record_10 1 rfl ?_
    refine g_sipush X d_MO_record_11 (v := (nI 4155)) rfl ?_
    refine g_ic_ge X d_MO_record_14 39 (by decide) (fun q1 => ?_) (fun q1 => ?_)
    · have hf := ite_t q1 hf
      refine g_aload_n X d_MO_record_39 0 rfl ?_
      refine g_dup X d_MO_record_40 rfl ?_
      refine gf_112_4 X d_MO_record_41 wl_MO_70 ?_
      refine g_iconst X d_MO_record_44 (v := (nI 1)) rfl ?_
      refine g_isub X d_MO_record_45 ?_
      obtain ⟨σ2, eσ2, hf⟩ := lt_ex hf
      refine gp_112_4 X d_MO_record_46 wl_MO_70 eσ2 ?_
      refine g_iconst X d_MO_record_49 (v := (nI 0)) rfl ?_
      refine g_istore_n X d_MO_record_50 rfl (lv' := [(1, .int (nI 0)), (0, .ref (Γ.2.2.1 112))]) (Nat.le_of_ble_eq_true rfl) rfl ?_
      refine g_sub [1, 0] rfl ?_
      exact w_MO_record_51 X hr hk9 _ _ _ hf
    · have hf := ite_f q1 hf
      refine g_aload_n X d_MO_record_17 0 rfl ?_
      refine gf_112_2 X d_MO_record_18 wl_MO_16 ?_
      refine g_iload_n X d_MO_record_21 1 rfl ?_
      refine g_aload_n X d_MO_record_22 0 rfl ?_
      refine gf_112_2 X d_MO_record_23 wl_MO_16 ?_
      refine g_iload_n X d_MO_record_26 1 rfl ?_
      refine g_sipush X d_MO_record_27 (v := (nI 1385)) rfl ?_
      refine g_iadd X d_MO_record_30 ?_
      obtain ⟨b3, hf⟩ := gd_some hf
      refine g_iald X d_MO_record_31 kd_115 b3 ?_
      obtain ⟨b4, hf⟩ := gd_some hf
      obtain ⟨σ5, eσ5, hf⟩ := lt_ex hf
      refine g_iast X d_MO_record_32 kd_115 b4 eσ5 ?_
      refine g_iinc X d_MO_record_33 (j := 1) (lv' := [(1, .int (x1 + (nI 1))), (0, .ref (Γ.2.2.1 112))]) rfl rfl (Nat.le_of_ble_eq_true rfl) rfl ?_
      refine g_goto X d_MO_record_36 10 (by decide) ?_
      refine g_sub [1, 0] rfl ?_
      exact ih _ _ hf
set_option maxRecDepth 10000 in
theorem c_MO_record' {Γ : Gm} {l : Launch} {σ σ' : Sg} {r : Int32} (hf : f_MO_record σ = some (r, σ')) : Ctr Γ l y_MO_record c_MO_record 2 none 0 0 [.ref (Γ.2.2.1 112)] σ σ' none := by
  refine Ctr.of (lv := [(0, .ref (Γ.2.2.1 112))]) (by decide +kernel) (Nat.le_of_ble_eq_true rfl) rfl ?_
  intro p e s m args below meth c X hr hk9
  have X : Cx Γ p (z_rm 0 0) s m args c c_MO_record 2 "CaptionTalliesModel" 0 0 := X
  rw [f_MO_record] at hf
  refine g_aload_n X d_MO_record_0 0 rfl ?_
  refine gf_112_4 X d_MO_record_1 wl_MO_70 ?_
  refine g_iconst X d_MO_record_4 (v := (nI 4)) rfl ?_
  refine g_ic_ne X d_MO_record_5 49 (by decide) (fun q1 => ?_) (fun q1 => ?_)
  · have hf := ite_f q1 hf
    refine g_iconst X d_MO_record_49 (v := (nI 0)) rfl ?_
    refine g_istore_n X d_MO_record_50 rfl (lv' := [(1, .int (nI 0)), (0, .ref (Γ.2.2.1 112))]) (Nat.le_of_ble_eq_true rfl) rfl ?_
    refine g_sub [1, 0] rfl ?_
    exact w_MO_record_51 X hr hk9 _ _ _ hf
  · have hf := ite_t q1 hf
    refine g_iconst X d_MO_record_8 (v := (nI 0)) rfl ?_
    refine g_istore_n X d_MO_record_9 rfl (lv' := [(1, .int (nI 0)), (0, .ref (Γ.2.2.1 112))]) (Nat.le_of_ble_eq_true rfl) rfl ?_
    refine g_sub [1, 0] rfl ?_
    exact w_MO_record_10 X hr hk9 _ _ _ hf
section
variable {R : Room} {kc ks : Nat} {Q : State → Prop} {nL : Nat} {cc : ByteArray} {own : String} {pc : Nat} {lv lv' : List (Nat × Value)} {st : List Value}
theorem ca_MO_record (X : Cx Γ p R s m args c cc nL own kc ks) {idx : Nat} (hd : decode cc pc = .ok (.invokevirtual idx, 3)) (hlk : Cond.methodLink own idx y_MO_record ∈ lw_gt) (hR : 0 + 1 ≤ R.frames ∧ 8 + (2 + 11) + 0 ≤ R.locals) (hw : (st.map fun v => v.category).sum ≤ 8) {σ σ' : Sg} {r : Int32} (hf : f_MO_record σ = some (r, σ')) (k : G Γ p l e R s m args below meth c kc ks Q nL (pc + 3) lv (st) σ') : G Γ p l e R s m args below meth c kc ks Q nL pc lv (.ref (Γ.2.2.1 112) :: st) σ :=
  g_callV (As := []) (rest := st) X hd (c_MO_record' hf) co_MO_record hlk wn_MO_record wse_MO_record (by decide) kd_112 rfl hR rfl rfl hw k
end
set_option maxRecDepth 10000 in
theorem c_MO_is' {Γ : Gm} {l : Launch} {x1 : Int32} {σ σ' : Sg} {r : Int32} (hf : f_MO_is x1 σ = some (r, σ')) : Ctr Γ l y_MO_is c_MO_is 2 (some .boolean) 1 22 [.ref (Γ.2.2.1 112), .int x1] σ σ' (some (.int r)) := by
  refine Ctr.of (lv := [(0, .ref (Γ.2.2.1 112)), (1, .int x1)]) (by decide +kernel) (Nat.le_of_ble_eq_true rfl) rfl ?_
  intro p e s m args below meth c X hr hk9
  have X : Cx Γ p (z_rm 1 22) s m args c c_MO_is 2 "CaptionTalliesModel" 0 0 := X
  rw [f_MO_is] at hf
  refine g_iload_n X d_MO_is_0 1 rfl ?_
  refine g_iconst X d_MO_is_1 (v := (nI 0)) rfl ?_
  refine g_aload_n X d_MO_is_2 0 rfl ?_
  refine gf_112_0 X d_MO_is_3 wl_MO_7 ?_
  refine g_iconst X d_MO_is_6 (v := (nI 0)) rfl ?_
  obtain ⟨b1, hf⟩ := gd_some hf
  refine g_iald X d_MO_is_7 kd_113 b1 ?_
  refine g_iconst X d_MO_is_8 (v := (nI 1)) rfl ?_
  refine g_isub X d_MO_is_9 ?_
  obtain ⟨r2, σ3, er2, hf⟩ := bd_some hf
  refine ca_MO_in X d_MO_is_10 wl_MO_74 ⟨Nat.le_of_ble_eq_true rfl, Nat.le_of_ble_eq_true rfl⟩ (sum8 rfl) er2 ?_
  refine g_if_eq X d_MO_is_13 33 (by decide) (fun q4 => ?_) (fun q4 => ?_)
  · have hf := ite_t q4 hf
    refine g_iconst X d_MO_is_33 (v := (nI 0)) rfl ?_
    exact g_zret X d_MO_is_34 hr hk9 rfl hf
  · have hf := ite_f q4 hf
    refine g_aload_n X d_MO_is_16 0 rfl ?_
    refine gf_112_0 X d_MO_is_17 wl_MO_7 ?_
    refine g_bipush X d_MO_is_20 (v := (nI 29)) rfl ?_
    refine g_iload_n X d_MO_is_22 1 rfl ?_
    refine g_iadd X d_MO_is_23 ?_
    obtain ⟨b5, hf⟩ := gd_some hf
    refine g_iald X d_MO_is_24 kd_113 b5 ?_
    refine g_iconst X d_MO_is_25 (v := (nI 1)) rfl ?_
    refine g_ic_ne X d_MO_is_26 33 (by decide) (fun q6 => ?_) (fun q6 => ?_)
    · have hf := ite_f q6 hf
      refine g_iconst X d_MO_is_33 (v := (nI 0)) rfl ?_
      exact g_zret X d_MO_is_34 hr hk9 rfl hf
    · have hf := ite_t q6 hf
      refine g_iconst X d_MO_is_29 (v := (nI 1)) rfl ?_
      refine g_goto X d_MO_is_30 34 (by decide) ?_
      exact g_zret X d_MO_is_34 hr hk9 rfl hf
section
variable {R : Room} {kc ks : Nat} {Q : State → Prop} {nL : Nat} {cc : ByteArray} {own : String} {pc : Nat} {lv lv' : List (Nat × Value)} {st : List Value}
theorem ca_MO_is {x1 : Int32} (X : Cx Γ p R s m args c cc nL own kc ks) {idx : Nat} (hd : decode cc pc = .ok (.invokevirtual idx, 3)) (hlk : Cond.methodLink own idx y_MO_is ∈ lw_gt) (hR : 1 + 1 ≤ R.frames ∧ 8 + (2 + 11) + 22 ≤ R.locals) (hw : (st.map fun v => v.category).sum ≤ 8) {σ σ' : Sg} {r : Int32} (hf : f_MO_is x1 σ = some (r, σ')) (k : G Γ p l e R s m args below meth c kc ks Q nL (pc + 3) lv (.int r :: st) σ') : G Γ p l e R s m args below meth c kc ks Q nL pc lv (.int x1 :: .ref (Γ.2.2.1 112) :: st) σ :=
  g_callV (As := [.int x1]) (rest := st) X hd (c_MO_is' hf) co_MO_is hlk wn_MO_is wse_MO_is (by decide) kd_112 rfl hR rfl rfl hw k
end
set_option maxRecDepth 10000 in
theorem w_MO_there_4 {r : Int32} {σ' : Sg} (X : Cx Γ p (z_rm 0 0) s m args c c_MO_there 3 "CaptionTalliesModel" 0 0) (hr : meth.sig.returnType = (some .int)) (hk9 : meth.locks = false) : ∀ (n9 : Nat) (x1 : Int32) (x2 : Int32) (σ : Sg), f_MO_there_4 n9 x1 x2 σ = some (r, σ') → G Γ p l e (z_rm 0 0) s m args below meth c 0 0 (MQ below (Qx Γ (some (.int r)) σ') args s 0 0 (fun q : Nat => Γ.2.2.2 ≤ q)) 3 4 [(0, .ref (Γ.2.2.1 112)), (1, .int x1), (2, .int x2)] [] σ := by
  intro n9
  induction n9 with
  | zero => intro x1 x2 σ hf; cases hf
  | succ n9 ih =>
    intro x1 x2 σ hf
    rw [f_MO_there_4] at hf
    refine g_iload_n X d_MO_there_4 2 rfl ?_
    refine g_aload_n X d_MO_there_5 0 rfl ?_
    refine gf_112_0 X d_MO_there_6 wl_MO_7 ?_
    refine g_iconst X d_MO_there_9 (v := (nI 0)) rfl ?_
    obtain ⟨b1, hf⟩ := gd_some hf
    refine g_iald X d_MO_there_10 kd_113 b1 ?_
    refine g_ic_ge X d_MO_there_11 32 (by decide) (fun q2 => ?_) (fun q2 => ?_)
    · have hf := ite_t q2 hf
      refine g_iload_n X d_MO_there_32 1 rfl ?_
      exact g_iret X d_MO_there_33 hr hk9 hf
    · have hf := ite_f q2 hf
      refine g_iload_n X d_MO_there_14 1 rfl ?_
      refine g_aload_n X d_MO_there_15 0 rfl ?_
      refine gf_112_0 X d_MO_there_16 wl_MO_7 ?_
      refine g_bipush X d_MO_there_19 (v := (nI 29)) rfl ?_
      refine g_iload_n X d_MO_there_21 2 rfl ?_
      refine g_iadd X d_MO_there_22 ?_
      obtain ⟨b3, hf⟩ := gd_some hf
      refine g_iald X d_MO_there_23 kd_113 b3 ?_
      refine g_iadd X d_MO_there_24 ?_
      obtain ⟨v4, ev4, hf⟩ := lt_ex hf
      refine g_top ev4 ?_
      refine g_istore_n X d_MO_there_25 rfl (lv' := [(1, .int v4), (0, .ref (Γ.2.2.1 112)), (2, .int x2)]) (Nat.le_of_ble_eq_true rfl) rfl ?_
      refine g_iinc X d_MO_there_26 (j := 2) (lv' := [(2, .int (x2 + (nI 1))), (1, .int v4), (0, .ref (Γ.2.2.1 112))]) rfl rfl (Nat.le_of_ble_eq_true rfl) rfl ?_
      refine g_goto X d_MO_there_29 4 (by decide) ?_
      refine g_sub [2, 1, 0] rfl ?_
      exact ih _ _ _ hf
set_option maxRecDepth 10000 in
theorem c_MO_there' {Γ : Gm} {l : Launch} {σ σ' : Sg} {r : Int32} (hf : f_MO_there σ = some (r, σ')) : Ctr Γ l y_MO_there c_MO_there 3 (some .int) 0 0 [.ref (Γ.2.2.1 112)] σ σ' (some (.int r)) := by
  refine Ctr.of (lv := [(0, .ref (Γ.2.2.1 112))]) (by decide +kernel) (Nat.le_of_ble_eq_true rfl) rfl ?_
  intro p e s m args below meth c X hr hk9
  have X : Cx Γ p (z_rm 0 0) s m args c c_MO_there 3 "CaptionTalliesModel" 0 0 := X
  rw [f_MO_there] at hf
  refine g_iconst X d_MO_there_0 (v := (nI 0)) rfl ?_
  refine g_istore_n X d_MO_there_1 rfl (lv' := [(1, .int (nI 0)), (0, .ref (Γ.2.2.1 112))]) (Nat.le_of_ble_eq_true rfl) rfl ?_
  refine g_iconst X d_MO_there_2 (v := (nI 0)) rfl ?_
  refine g_istore_n X d_MO_there_3 rfl (lv' := [(2, .int (nI 0)), (1, .int (nI 0)), (0, .ref (Γ.2.2.1 112))]) (Nat.le_of_ble_eq_true rfl) rfl ?_
  refine g_sub [2, 1, 0] rfl ?_
  exact w_MO_there_4 X hr hk9 _ _ _ _ hf
section
variable {R : Room} {kc ks : Nat} {Q : State → Prop} {nL : Nat} {cc : ByteArray} {own : String} {pc : Nat} {lv lv' : List (Nat × Value)} {st : List Value}
theorem ca_MO_there (X : Cx Γ p R s m args c cc nL own kc ks) {idx : Nat} (hd : decode cc pc = .ok (.invokevirtual idx, 3)) (hlk : Cond.methodLink own idx y_MO_there ∈ lw_gt) (hR : 0 + 1 ≤ R.frames ∧ 8 + (3 + 11) + 0 ≤ R.locals) (hw : (st.map fun v => v.category).sum ≤ 8) {σ σ' : Sg} {r : Int32} (hf : f_MO_there σ = some (r, σ')) (k : G Γ p l e R s m args below meth c kc ks Q nL (pc + 3) lv (.int r :: st) σ') : G Γ p l e R s m args below meth c kc ks Q nL pc lv (.ref (Γ.2.2.1 112) :: st) σ :=
  g_callV (As := []) (rest := st) X hd (c_MO_there' hf) co_MO_there hlk wn_MO_there wse_MO_there (by decide) kd_112 rfl hR rfl rfl hw k
end
set_option maxRecDepth 10000 in
theorem c_MO_isLetter' {Γ : Gm} {l : Launch} {x0 : Int32} {σ σ' : Sg} {r : Int32} (hf : f_MO_isLetter x0 σ = some (r, σ')) : Ctr Γ l y_MO_isLetter c_MO_isLetter 1 (some .boolean) 1 22 [.int x0] σ σ' (some (.int r)) := by
  refine Ctr.of (lv := [(0, .int x0)]) (by decide +kernel) (Nat.le_of_ble_eq_true rfl) rfl ?_
  intro p e s m args below meth c X hr hk9
  have X : Cx Γ p (z_rm 1 22) s m args c c_MO_isLetter 1 "CaptionTalliesModel" 0 0 := X
  rw [f_MO_isLetter] at hf
  refine g_iload_n X d_MO_isLetter_0 0 rfl ?_
  refine g_bipush X d_MO_isLetter_1 (v := (nI 97)) rfl ?_
  refine g_bipush X d_MO_isLetter_3 (v := (nI 122)) rfl ?_
  obtain ⟨r1, σ2, er1, hf⟩ := bd_some hf
  refine ca_MO_in X d_MO_isLetter_5 wl_MO_74 ⟨Nat.le_of_ble_eq_true rfl, Nat.le_of_ble_eq_true rfl⟩ (sum8 rfl) er1 ?_
  refine g_if_ne X d_MO_isLetter_8 22 (by decide) (fun q3 => ?_) (fun q3 => ?_)
  · have hf := ite_f q3 hf
    refine g_iconst X d_MO_isLetter_22 (v := (nI 1)) rfl ?_
    refine g_goto X d_MO_isLetter_23 27 (by decide) ?_
    exact g_zret X d_MO_isLetter_27 hr hk9 rfl hf
  · have hf := ite_t q3 hf
    refine g_iload_n X d_MO_isLetter_11 0 rfl ?_
    refine g_bipush X d_MO_isLetter_12 (v := (nI 65)) rfl ?_
    refine g_bipush X d_MO_isLetter_14 (v := (nI 90)) rfl ?_
    obtain ⟨r4, σ5, er4, hf⟩ := bd_some hf
    refine ca_MO_in X d_MO_isLetter_16 wl_MO_74 ⟨Nat.le_of_ble_eq_true rfl, Nat.le_of_ble_eq_true rfl⟩ (sum8 rfl) er4 ?_
    refine g_if_eq X d_MO_isLetter_19 26 (by decide) (fun q6 => ?_) (fun q6 => ?_)
    · have hf := ite_t q6 hf
      refine g_iconst X d_MO_isLetter_26 (v := (nI 0)) rfl ?_
      exact g_zret X d_MO_isLetter_27 hr hk9 rfl hf
    · have hf := ite_f q6 hf
      refine g_iconst X d_MO_isLetter_22 (v := (nI 1)) rfl ?_
      refine g_goto X d_MO_isLetter_23 27 (by decide) ?_
      exact g_zret X d_MO_isLetter_27 hr hk9 rfl hf
section
variable {R : Room} {kc ks : Nat} {Q : State → Prop} {nL : Nat} {cc : ByteArray} {own : String} {pc : Nat} {lv lv' : List (Nat × Value)} {st : List Value}
theorem ca_MO_isLetter {x0 : Int32} (X : Cx Γ p R s m args c cc nL own kc ks) {idx : Nat} (hd : decode cc pc = .ok (.invokestatic idx, 3)) (hlk : Cond.methodLink own idx y_MO_isLetter ∈ lw_gt) (hR : 1 + 1 ≤ R.frames ∧ 8 + (1 + 11) + 22 ≤ R.locals) (hw : (st.map fun v => v.category).sum ≤ 8) {σ σ' : Sg} {r : Int32} (hf : f_MO_isLetter x0 σ = some (r, σ')) (k : G Γ p l e R s m args below meth c kc ks Q nL (pc + 3) lv (.int r :: st) σ') : G Γ p l e R s m args below meth c kc ks Q nL pc lv (.int x0 :: st) σ :=
  g_callS (As := [.int x0]) (rest := st) X hd (c_MO_isLetter' hf) co_MO_isLetter hlk wn_MO_isLetter hR rfl rfl hw k
theorem can_MO_isLetter {x0 : Int32} (X : Cx Γ p R s m args c cc nL own kc ks) {idx : Nat} (hd : decode cc pc = .ok (.invokestatic idx, 3)) (hlk : (own, idx, y_MO_isLetter) ∈ z_nests) (hR : 1 + 1 ≤ R.frames ∧ 8 + (1 + 11) + 22 ≤ R.locals) (hw : (st.map fun v => v.category).sum ≤ 8) {σ σ' : Sg} {r : Int32} (hf : f_MO_isLetter x0 σ = some (r, σ')) (k : G Γ p l e R s m args below meth c kc ks Q nL (pc + 3) lv (.int r :: st) σ') : G Γ p l e R s m args below meth c kc ks Q nL pc lv (.int x0 :: st) σ :=
  g_callSN (As := [.int x0]) (rest := st) X hd (c_MO_isLetter' hf) co_MO_isLetter hlk wn_MO_isLetter hR rfl rfl hw k
end
set_option maxRecDepth 10000 in
theorem c_MO_small' {Γ : Gm} {l : Launch} {x0 : Int32} {σ σ' : Sg} {r : Int32} (hf : f_MO_small x0 σ = some (r, σ')) : Ctr Γ l y_MO_small c_MO_small 1 (some .int) 1 22 [.int x0] σ σ' (some (.int r)) := by
  refine Ctr.of (lv := [(0, .int x0)]) (by decide +kernel) (Nat.le_of_ble_eq_true rfl) rfl ?_
  intro p e s m args below meth c X hr hk9
  have X : Cx Γ p (z_rm 1 22) s m args c c_MO_small 1 "CaptionTalliesModel" 0 0 := X
  rw [f_MO_small] at hf
  refine g_iload_n X d_MO_small_0 0 rfl ?_
  refine g_bipush X d_MO_small_1 (v := (nI 65)) rfl ?_
  refine g_bipush X d_MO_small_3 (v := (nI 90)) rfl ?_
  obtain ⟨r1, σ2, er1, hf⟩ := bd_some hf
  refine ca_MO_in X d_MO_small_5 wl_MO_74 ⟨Nat.le_of_ble_eq_true rfl, Nat.le_of_ble_eq_true rfl⟩ (sum8 rfl) er1 ?_
  refine g_if_eq X d_MO_small_8 21 (by decide) (fun q3 => ?_) (fun q3 => ?_)
  · have hf := ite_t q3 hf
    refine g_iload_n X d_MO_small_21 0 rfl ?_
    exact g_iret X d_MO_small_22 hr hk9 hf
  · have hf := ite_f q3 hf
    refine g_iload_n X d_MO_small_11 0 rfl ?_
    refine g_bipush X d_MO_small_12 (v := (nI 65)) rfl ?_
    refine g_isub X d_MO_small_14 ?_
    refine g_bipush X d_MO_small_15 (v := (nI 97)) rfl ?_
    refine g_iadd X d_MO_small_17 ?_
    refine g_goto X d_MO_small_18 22 (by decide) ?_
    exact g_iret X d_MO_small_22 hr hk9 hf
section
variable {R : Room} {kc ks : Nat} {Q : State → Prop} {nL : Nat} {cc : ByteArray} {own : String} {pc : Nat} {lv lv' : List (Nat × Value)} {st : List Value}
theorem ca_MO_small {x0 : Int32} (X : Cx Γ p R s m args c cc nL own kc ks) {idx : Nat} (hd : decode cc pc = .ok (.invokestatic idx, 3)) (hlk : Cond.methodLink own idx y_MO_small ∈ lw_gt) (hR : 1 + 1 ≤ R.frames ∧ 8 + (1 + 11) + 22 ≤ R.locals) (hw : (st.map fun v => v.category).sum ≤ 8) {σ σ' : Sg} {r : Int32} (hf : f_MO_small x0 σ = some (r, σ')) (k : G Γ p l e R s m args below meth c kc ks Q nL (pc + 3) lv (.int r :: st) σ') : G Γ p l e R s m args below meth c kc ks Q nL pc lv (.int x0 :: st) σ :=
  g_callS (As := [.int x0]) (rest := st) X hd (c_MO_small' hf) co_MO_small hlk wn_MO_small hR rfl rfl hw k
theorem can_MO_small {x0 : Int32} (X : Cx Γ p R s m args c cc nL own kc ks) {idx : Nat} (hd : decode cc pc = .ok (.invokestatic idx, 3)) (hlk : (own, idx, y_MO_small) ∈ z_nests) (hR : 1 + 1 ≤ R.frames ∧ 8 + (1 + 11) + 22 ≤ R.locals) (hw : (st.map fun v => v.category).sum ≤ 8) {σ σ' : Sg} {r : Int32} (hf : f_MO_small x0 σ = some (r, σ')) (k : G Γ p l e R s m args below meth c kc ks Q nL (pc + 3) lv (.int r :: st) σ') : G Γ p l e R s m args below meth c kc ks Q nL pc lv (.int x0 :: st) σ :=
  g_callSN (As := [.int x0]) (rest := st) X hd (c_MO_small' hf) co_MO_small hlk wn_MO_small hR rfl rfl hw k
end
set_option maxRecDepth 10000 in
theorem c_MO_isSign' {Γ : Gm} {l : Launch} {x0 : Int32} {σ σ' : Sg} {r : Int32} (hf : f_MO_isSign x0 σ = some (r, σ')) : Ctr Γ l y_MO_isSign c_MO_isSign 1 (some .boolean) 2 42 [.int x0] σ σ' (some (.int r)) := by
  refine Ctr.of (lv := [(0, .int x0)]) (by decide +kernel) (Nat.le_of_ble_eq_true rfl) rfl ?_
  intro p e s m args below meth c X hr hk9
  have X : Cx Γ p (z_rm 2 42) s m args c c_MO_isSign 1 "CaptionTalliesModel" 0 0 := X
  rw [f_MO_isSign] at hf
  refine g_iload_n X d_MO_isSign_0 0 rfl ?_
  obtain ⟨r1, σ2, er1, hf⟩ := bd_some hf
  refine ca_MO_isLetter X d_MO_isSign_1 wl_MO_78 ⟨Nat.le_of_ble_eq_true rfl, Nat.le_of_ble_eq_true rfl⟩ (sum8 rfl) er1 ?_
  refine g_if_ne X d_MO_isSign_4 49 (by decide) (fun q3 => ?_) (fun q3 => ?_)
  · have hf := ite_f q3 hf
    refine g_iconst X d_MO_isSign_49 (v := (nI 1)) rfl ?_
    refine g_goto X d_MO_isSign_50 54 (by decide) ?_
    exact g_zret X d_MO_isSign_54 hr hk9 rfl hf
  · have hf := ite_t q3 hf
    refine g_iload_n X d_MO_isSign_7 0 rfl ?_
    refine g_bipush X d_MO_isSign_8 (v := (nI 32)) rfl ?_
    refine g_ic_eq X d_MO_isSign_10 49 (by decide) (fun q4 => ?_) (fun q4 => ?_)
    · have hf := ite_t q4 hf
      refine g_iconst X d_MO_isSign_49 (v := (nI 1)) rfl ?_
      refine g_goto X d_MO_isSign_50 54 (by decide) ?_
      exact g_zret X d_MO_isSign_54 hr hk9 rfl hf
    · have hf := ite_f q4 hf
      refine g_iload_n X d_MO_isSign_13 0 rfl ?_
      refine g_bipush X d_MO_isSign_14 (v := (nI 46)) rfl ?_
      refine g_ic_eq X d_MO_isSign_16 49 (by decide) (fun q5 => ?_) (fun q5 => ?_)
      · have hf := ite_t q5 hf
        refine g_iconst X d_MO_isSign_49 (v := (nI 1)) rfl ?_
        refine g_goto X d_MO_isSign_50 54 (by decide) ?_
        exact g_zret X d_MO_isSign_54 hr hk9 rfl hf
      · have hf := ite_f q5 hf
        refine g_iload_n X d_MO_isSign_19 0 rfl ?_
        refine g_bipush X d_MO_isSign_20 (v := (nI 44)) rfl ?_
        refine g_ic_eq X d_MO_isSign_22 49 (by decide) (fun q6 => ?_) (fun q6 => ?_)
        · have hf := ite_t q6 hf
          refine g_iconst X d_MO_isSign_49 (v := (nI 1)) rfl ?_
          refine g_goto X d_MO_isSign_50 54 (by decide) ?_
          exact g_zret X d_MO_isSign_54 hr hk9 rfl hf
        · have hf := ite_f q6 hf
          refine g_iload_n X d_MO_isSign_25 0 rfl ?_
          refine g_bipush X d_MO_isSign_26 (v := (nI 33)) rfl ?_
          refine g_ic_eq X d_MO_isSign_28 49 (by decide) (fun q7 => ?_) (fun q7 => ?_)
          · have hf := ite_t q7 hf
            refine g_iconst X d_MO_isSign_49 (v := (nI 1)) rfl ?_
            refine g_goto X d_MO_isSign_50 54 (by decide) ?_
            exact g_zret X d_MO_isSign_54 hr hk9 rfl hf
          · have hf := ite_f q7 hf
            refine g_iload_n X d_MO_isSign_31 0 rfl ?_
            refine g_bipush X d_MO_isSign_32 (v := (nI 63)) rfl ?_
            refine g_ic_eq X d_MO_isSign_34 49 (by decide) (fun q8 => ?_) (fun q8 => ?_)
            · have hf := ite_t q8 hf
              refine g_iconst X d_MO_isSign_49 (v := (nI 1)) rfl ?_
              refine g_goto X d_MO_isSign_50 54 (by decide) ?_
              exact g_zret X d_MO_isSign_54 hr hk9 rfl hf
            · have hf := ite_f q8 hf
              refine g_iload_n X d_MO_isSign_37 0 rfl ?_
              refine g_bipush X d_MO_isSign_38 (v := (nI 39)) rfl ?_
              refine g_ic_eq X d_MO_isSign_40 49 (by decide) (fun q9 => ?_) (fun q9 => ?_)
              · have hf := ite_t q9 hf
                refine g_iconst X d_MO_isSign_49 (v := (nI 1)) rfl ?_
                refine g_goto X d_MO_isSign_50 54 (by decide) ?_
                exact g_zret X d_MO_isSign_54 hr hk9 rfl hf
              · have hf := ite_f q9 hf
                refine g_iload_n X d_MO_isSign_43 0 rfl ?_
                refine g_bipush X d_MO_isSign_44 (v := (nI 45)) rfl ?_
                refine g_ic_ne X d_MO_isSign_46 53 (by decide) (fun q10 => ?_) (fun q10 => ?_)
                · have hf := ite_f q10 hf
                  refine g_iconst X d_MO_isSign_53 (v := (nI 0)) rfl ?_
                  exact g_zret X d_MO_isSign_54 hr hk9 rfl hf
                · have hf := ite_t q10 hf
                  refine g_iconst X d_MO_isSign_49 (v := (nI 1)) rfl ?_
                  refine g_goto X d_MO_isSign_50 54 (by decide) ?_
                  exact g_zret X d_MO_isSign_54 hr hk9 rfl hf
section
variable {R : Room} {kc ks : Nat} {Q : State → Prop} {nL : Nat} {cc : ByteArray} {own : String} {pc : Nat} {lv lv' : List (Nat × Value)} {st : List Value}
theorem ca_MO_isSign {x0 : Int32} (X : Cx Γ p R s m args c cc nL own kc ks) {idx : Nat} (hd : decode cc pc = .ok (.invokestatic idx, 3)) (hlk : Cond.methodLink own idx y_MO_isSign ∈ lw_gt) (hR : 2 + 1 ≤ R.frames ∧ 8 + (1 + 11) + 42 ≤ R.locals) (hw : (st.map fun v => v.category).sum ≤ 8) {σ σ' : Sg} {r : Int32} (hf : f_MO_isSign x0 σ = some (r, σ')) (k : G Γ p l e R s m args below meth c kc ks Q nL (pc + 3) lv (.int r :: st) σ') : G Γ p l e R s m args below meth c kc ks Q nL pc lv (.int x0 :: st) σ :=
  g_callS (As := [.int x0]) (rest := st) X hd (c_MO_isSign' hf) co_MO_isSign hlk wn_MO_isSign hR rfl rfl hw k
theorem can_MO_isSign {x0 : Int32} (X : Cx Γ p R s m args c cc nL own kc ks) {idx : Nat} (hd : decode cc pc = .ok (.invokestatic idx, 3)) (hlk : (own, idx, y_MO_isSign) ∈ z_nests) (hR : 2 + 1 ≤ R.frames ∧ 8 + (1 + 11) + 42 ≤ R.locals) (hw : (st.map fun v => v.category).sum ≤ 8) {σ σ' : Sg} {r : Int32} (hf : f_MO_isSign x0 σ = some (r, σ')) (k : G Γ p l e R s m args below meth c kc ks Q nL (pc + 3) lv (.int r :: st) σ') : G Γ p l e R s m args below meth c kc ks Q nL pc lv (.int x0 :: st) σ :=
  g_callSN (As := [.int x0]) (rest := st) X hd (c_MO_isSign' hf) co_MO_isSign hlk wn_MO_isSign hR rfl rfl hw k
end
set_option maxRecDepth 10000 in
theorem c_MO_sign' {Γ : Gm} {l : Launch} {x1 : Int32} {x2 : Int32} {σ σ' : Sg} {r : Int32} (hf : f_MO_sign x1 x2 σ = some (r, σ')) : Ctr Γ l y_MO_sign c_MO_sign 3 (some .int) 0 0 [.ref (Γ.2.2.1 112), .int x1, .int x2] σ σ' (some (.int r)) := by
  refine Ctr.of (lv := [(0, .ref (Γ.2.2.1 112)), (1, .int x1), (2, .int x2)]) (by decide +kernel) (Nat.le_of_ble_eq_true rfl) rfl ?_
  intro p e s m args below meth c X hr hk9
  have X : Cx Γ p (z_rm 0 0) s m args c c_MO_sign 3 "CaptionTalliesModel" 0 0 := X
  rw [f_MO_sign] at hf
  refine g_aload_n X d_MO_sign_0 0 rfl ?_
  refine gf_112_0 X d_MO_sign_1 wl_MO_7 ?_
  refine g_bipush X d_MO_sign_4 (v := (nI 89)) rfl ?_
  refine g_bipush X d_MO_sign_6 (v := (nI 60)) rfl ?_
  refine g_iload_n X d_MO_sign_8 1 rfl ?_
  refine g_imul X d_MO_sign_9 ?_
  refine g_iadd X d_MO_sign_10 ?_
  refine g_iload_n X d_MO_sign_11 2 rfl ?_
  refine g_iadd X d_MO_sign_12 ?_
  obtain ⟨b1, hf⟩ := gd_some hf
  refine g_iald X d_MO_sign_13 kd_113 b1 ?_
  exact g_iret X d_MO_sign_14 hr hk9 hf
section
variable {R : Room} {kc ks : Nat} {Q : State → Prop} {nL : Nat} {cc : ByteArray} {own : String} {pc : Nat} {lv lv' : List (Nat × Value)} {st : List Value}
theorem ca_MO_sign {x1 : Int32} {x2 : Int32} (X : Cx Γ p R s m args c cc nL own kc ks) {idx : Nat} (hd : decode cc pc = .ok (.invokevirtual idx, 3)) (hlk : Cond.methodLink own idx y_MO_sign ∈ lw_gt) (hR : 0 + 1 ≤ R.frames ∧ 8 + (3 + 11) + 0 ≤ R.locals) (hw : (st.map fun v => v.category).sum ≤ 8) {σ σ' : Sg} {r : Int32} (hf : f_MO_sign x1 x2 σ = some (r, σ')) (k : G Γ p l e R s m args below meth c kc ks Q nL (pc + 3) lv (.int r :: st) σ') : G Γ p l e R s m args below meth c kc ks Q nL pc lv (.int x2 :: .int x1 :: .ref (Γ.2.2.1 112) :: st) σ :=
  g_callV (As := [.int x1, .int x2]) (rest := st) X hd (c_MO_sign' hf) co_MO_sign hlk wn_MO_sign wse_MO_sign (by decide) kd_112 rfl hR rfl rfl hw k
end
set_option maxRecDepth 10000 in
theorem w_MO_takesCores_16 {K2 : Int32 → Sg → Option (Int32 × Sg)} {r : Int32} {σ' : Sg} (X : Cx Γ p (z_rm 2 42) s m args c c_MO_takesCores 4 "CaptionTalliesModel" 0 0) (hr : meth.sig.returnType = none) (hk9 : meth.locks = false) (hK2 : ∀ (x1 : Int32) (σ : Sg), K2 x1 σ = some (r, σ') → G Γ p l e (z_rm 2 42) s m args below meth c 0 0 (MQ below (Qx Γ none σ') args s 0 0 (fun q : Nat => Γ.2.2.2 ≤ q)) 4 2 [(0, .ref (Γ.2.2.1 112)), (1, .int x1)] [] σ) : ∀ (n9 : Nat) (x1 : Int32) (x2 : Int32) (x3 : Int32) (σ : Sg), f_MO_takesCores_16 K2 n9 x1 x2 x3 σ = some (r, σ') → G Γ p l e (z_rm 2 42) s m args below meth c 0 0 (MQ below (Qx Γ none σ') args s 0 0 (fun q : Nat => Γ.2.2.2 ≤ q)) 4 16 [(0, .ref (Γ.2.2.1 112)), (1, .int x1), (2, .int x2), (3, .int x3)] [] σ := by
  intro n9
  induction n9 with
  | zero => intro x1 x2 x3 σ hf; cases hf
  | succ n9 ih =>
    intro x1 x2 x3 σ hf
    rw [f_MO_takesCores_16] at hf
    refine g_iload_n X d_MO_takesCores_16 3 rfl ?_
    refine g_aload_n X d_MO_takesCores_17 0 rfl ?_
    refine gf_112_0 X d_MO_takesCores_18 wl_MO_7 ?_
    refine g_bipush X d_MO_takesCores_21 (v := (nI 69)) rfl ?_
    refine g_iload_n X d_MO_takesCores_23 1 rfl ?_
    refine g_iadd X d_MO_takesCores_24 ?_
    obtain ⟨b1, hf⟩ := gd_some hf
    refine g_iald X d_MO_takesCores_25 kd_113 b1 ?_
    refine g_ic_ge X d_MO_takesCores_26 70 (by decide) (fun q2 => ?_) (fun q2 => ?_)
    · have hf := ite_t q2 hf
      refine g_aload_n X d_MO_takesCores_70 0 rfl ?_
      refine gf_112_20 X d_MO_takesCores_71 wl_MO_61 ?_
      refine g_iload_n X d_MO_takesCores_74 1 rfl ?_
      refine g_iload_n X d_MO_takesCores_75 2 rfl ?_
      obtain ⟨b3, hf⟩ := gd_some hf
      obtain ⟨σ4, eσ4, hf⟩ := lt_ex hf
      refine g_iast X d_MO_takesCores_76 kd_130 b3 eσ4 ?_
      refine g_iinc X d_MO_takesCores_77 (j := 1) (lv' := [(1, .int (x1 + (nI 1))), (0, .ref (Γ.2.2.1 112)), (2, .int x2), (3, .int x3)]) rfl rfl (Nat.le_of_ble_eq_true rfl) rfl ?_
      refine g_goto X d_MO_takesCores_80 2 (by decide) ?_
      refine g_sub [1, 0] rfl ?_
      exact hK2 _ _ hf
    · have hf := ite_f q2 hf
      refine g_aload_n X d_MO_takesCores_29 0 rfl ?_
      refine g_iload_n X d_MO_takesCores_30 1 rfl ?_
      refine g_iload_n X d_MO_takesCores_31 3 rfl ?_
      obtain ⟨r5, σ6, er5, hf⟩ := bd_some hf
      refine ca_MO_sign X d_MO_takesCores_32 wl_MO_82 ⟨Nat.le_of_ble_eq_true rfl, Nat.le_of_ble_eq_true rfl⟩ (sum8 rfl) er5 ?_
      obtain ⟨r7, σ8, er7, hf⟩ := bd_some hf
      refine ca_MO_isLetter X d_MO_takesCores_35 wl_MO_78 ⟨Nat.le_of_ble_eq_true rfl, Nat.le_of_ble_eq_true rfl⟩ (sum8 rfl) er7 ?_
      refine g_if_eq X d_MO_takesCores_38 64 (by decide) (fun q9 => ?_) (fun q9 => ?_)
      · have hf := ite_t q9 hf
        refine g_iinc X d_MO_takesCores_64 (j := 3) (lv' := [(3, .int (x3 + (nI 1))), (0, .ref (Γ.2.2.1 112)), (1, .int x1), (2, .int x2)]) rfl rfl (Nat.le_of_ble_eq_true rfl) rfl ?_
        refine g_goto X d_MO_takesCores_67 16 (by decide) ?_
        refine g_sub [1, 2, 3, 0] rfl ?_
        exact ih _ _ _ _ hf
      · have hf := ite_f q9 hf
        refine g_aload_n X d_MO_takesCores_41 0 rfl ?_
        refine gf_112_19 X d_MO_takesCores_42 wl_MO_58 ?_
        refine g_bipush X d_MO_takesCores_45 (v := (nI 60)) rfl ?_
        refine g_iload_n X d_MO_takesCores_47 1 rfl ?_
        refine g_imul X d_MO_takesCores_48 ?_
        refine g_iload_n X d_MO_takesCores_49 2 rfl ?_
        refine g_iadd X d_MO_takesCores_50 ?_
        refine g_aload_n X d_MO_takesCores_51 0 rfl ?_
        refine g_iload_n X d_MO_takesCores_52 1 rfl ?_
        refine g_iload_n X d_MO_takesCores_53 3 rfl ?_
        obtain ⟨r10, σ11, er10, hf⟩ := bd_some hf
        refine ca_MO_sign X d_MO_takesCores_54 wl_MO_82 ⟨Nat.le_of_ble_eq_true rfl, Nat.le_of_ble_eq_true rfl⟩ (sum8 rfl) er10 ?_
        obtain ⟨r12, σ13, er12, hf⟩ := bd_some hf
        refine ca_MO_small X d_MO_takesCores_57 wl_MO_86 ⟨Nat.le_of_ble_eq_true rfl, Nat.le_of_ble_eq_true rfl⟩ (sum8 rfl) er12 ?_
        obtain ⟨b14, hf⟩ := gd_some hf
        obtain ⟨σ15, eσ15, hf⟩ := lt_ex hf
        refine g_iast X d_MO_takesCores_60 kd_129 b14 eσ15 ?_
        refine g_iinc X d_MO_takesCores_61 (j := 2) (lv' := [(2, .int (x2 + (nI 1))), (0, .ref (Γ.2.2.1 112)), (1, .int x1), (3, .int x3)]) rfl rfl (Nat.le_of_ble_eq_true rfl) rfl ?_
        refine g_iinc X d_MO_takesCores_64 (j := 3) (lv' := [(3, .int (x3 + (nI 1))), (2, .int (x2 + (nI 1))), (0, .ref (Γ.2.2.1 112)), (1, .int x1)]) rfl rfl (Nat.le_of_ble_eq_true rfl) rfl ?_
        refine g_goto X d_MO_takesCores_67 16 (by decide) ?_
        refine g_sub [2, 3, 1, 0] rfl ?_
        exact ih _ _ _ _ hf
set_option maxRecDepth 10000 in
theorem w_MO_takesCores_2 {r : Int32} {σ' : Sg} (X : Cx Γ p (z_rm 2 42) s m args c c_MO_takesCores 4 "CaptionTalliesModel" 0 0) (hr : meth.sig.returnType = none) (hk9 : meth.locks = false) : ∀ (n9 : Nat) (x1 : Int32) (σ : Sg), f_MO_takesCores_2 n9 x1 σ = some (r, σ') → G Γ p l e (z_rm 2 42) s m args below meth c 0 0 (MQ below (Qx Γ none σ') args s 0 0 (fun q : Nat => Γ.2.2.2 ≤ q)) 4 2 [(0, .ref (Γ.2.2.1 112)), (1, .int x1)] [] σ := by
  intro n9
  induction n9 with
  | zero => intro x1 σ hf; cases hf
  | succ n9 ih =>
    intro x1 σ hf
    rw [f_MO_takesCores_2] at hf
    refine g_iload_n X d_MO_takesCores_2 1 rfl ?_
    refine g_aload_n X d_MO_takesCores_3 0 rfl ?_
    refine gf_112_0 X d_MO_takesCores_4 wl_MO_7 ?_
    refine g_iconst X d_MO_takesCores_7 (v := (nI 0)) rfl ?_
    obtain ⟨b1, hf⟩ := gd_some hf
    refine g_iald X d_MO_takesCores_8 kd_113 b1 ?_
    refine g_ic_ge X d_MO_takesCores_9 83 (by decide) (fun q2 => ?_) (fun q2 => ?_)
    · have hf := ite_t q2 hf
      exact g_vret X d_MO_takesCores_83 hr hk9 hf
    · have hf := ite_f q2 hf
      refine g_iconst X d_MO_takesCores_12 (v := (nI 0)) rfl ?_
      refine g_istore_n X d_MO_takesCores_13 rfl (lv' := [(2, .int (nI 0)), (0, .ref (Γ.2.2.1 112)), (1, .int x1)]) (Nat.le_of_ble_eq_true rfl) rfl ?_
      refine g_iconst X d_MO_takesCores_14 (v := (nI 0)) rfl ?_
      refine g_istore_n X d_MO_takesCores_15 rfl (lv' := [(3, .int (nI 0)), (2, .int (nI 0)), (0, .ref (Γ.2.2.1 112)), (1, .int x1)]) (Nat.le_of_ble_eq_true rfl) rfl ?_
      refine g_sub [2, 3, 1, 0] rfl ?_
      exact w_MO_takesCores_16 X hr hk9 ih _ _ _ _ _ hf
set_option maxRecDepth 10000 in
theorem c_MO_takesCores' {Γ : Gm} {l : Launch} {σ σ' : Sg} {r : Int32} (hf : f_MO_takesCores σ = some (r, σ')) : Ctr Γ l y_MO_takesCores c_MO_takesCores 4 none 2 42 [.ref (Γ.2.2.1 112)] σ σ' none := by
  refine Ctr.of (lv := [(0, .ref (Γ.2.2.1 112))]) (by decide +kernel) (Nat.le_of_ble_eq_true rfl) rfl ?_
  intro p e s m args below meth c X hr hk9
  have X : Cx Γ p (z_rm 2 42) s m args c c_MO_takesCores 4 "CaptionTalliesModel" 0 0 := X
  rw [f_MO_takesCores] at hf
  refine g_iconst X d_MO_takesCores_0 (v := (nI 0)) rfl ?_
  refine g_istore_n X d_MO_takesCores_1 rfl (lv' := [(1, .int (nI 0)), (0, .ref (Γ.2.2.1 112))]) (Nat.le_of_ble_eq_true rfl) rfl ?_
  refine g_sub [1, 0] rfl ?_
  exact w_MO_takesCores_2 X hr hk9 _ _ _ hf
section
variable {R : Room} {kc ks : Nat} {Q : State → Prop} {nL : Nat} {cc : ByteArray} {own : String} {pc : Nat} {lv lv' : List (Nat × Value)} {st : List Value}
theorem ca_MO_takesCores (X : Cx Γ p R s m args c cc nL own kc ks) {idx : Nat} (hd : decode cc pc = .ok (.invokevirtual idx, 3)) (hlk : Cond.methodLink own idx y_MO_takesCores ∈ lw_gt) (hR : 2 + 1 ≤ R.frames ∧ 8 + (4 + 11) + 42 ≤ R.locals) (hw : (st.map fun v => v.category).sum ≤ 8) {σ σ' : Sg} {r : Int32} (hf : f_MO_takesCores σ = some (r, σ')) (k : G Γ p l e R s m args below meth c kc ks Q nL (pc + 3) lv (st) σ') : G Γ p l e R s m args below meth c kc ks Q nL pc lv (.ref (Γ.2.2.1 112) :: st) σ :=
  g_callV (As := []) (rest := st) X hd (c_MO_takesCores' hf) co_MO_takesCores hlk wn_MO_takesCores wse_MO_takesCores (by decide) kd_112 rfl hR rfl rfl hw k
end
set_option maxRecDepth 10000 in
theorem w_MO_isAlike_27 {r : Int32} {σ' : Sg} (X : Cx Γ p (z_rm 0 0) s m args c c_MO_isAlike 6 "CaptionTalliesModel" 0 0) (hr : meth.sig.returnType = (some .boolean)) (hk9 : meth.locks = false) : ∀ (n9 : Nat) (x1 : Int32) (x2 : Int32) (x3 : Int32) (x4 : Int32) (x5 : Int32) (σ : Sg), f_MO_isAlike_27 n9 x1 x2 x3 x4 x5 σ = some (r, σ') → G Γ p l e (z_rm 0 0) s m args below meth c 0 0 (MQ below (Qx Γ (some (.int r)) σ') args s 0 0 (fun q : Nat => Γ.2.2.2 ≤ q)) 6 27 [(0, .ref (Γ.2.2.1 112)), (1, .int x1), (2, .int x2), (3, .int x3), (4, .int x4), (5, .int x5)] [] σ := by
  intro n9
  induction n9 with
  | zero => intro x1 x2 x3 x4 x5 σ hf; cases hf
  | succ n9 ih =>
    intro x1 x2 x3 x4 x5 σ hf
    rw [f_MO_isAlike_27] at hf
    refine g_iload X d_MO_isAlike_27 5 rfl ?_
    refine g_iload_n X d_MO_isAlike_29 3 rfl ?_
    refine g_ic_ge X d_MO_isAlike_30 78 (by decide) (fun q1 => ?_) (fun q1 => ?_)
    · have hf := ite_t q1 hf
      refine g_iload X d_MO_isAlike_78 4 rfl ?_
      obtain ⟨b2, hf⟩ := gd_some hf
      exact g_zret X d_MO_isAlike_80 hr hk9 b2 hf
    · have hf := ite_f q1 hf
      refine g_iload X d_MO_isAlike_33 4 rfl ?_
      refine g_if_eq X d_MO_isAlike_35 78 (by decide) (fun q3 => ?_) (fun q3 => ?_)
      · have hf := ite_t q3 hf
        refine g_iload X d_MO_isAlike_78 4 rfl ?_
        obtain ⟨b4, hf⟩ := gd_some hf
        exact g_zret X d_MO_isAlike_80 hr hk9 b4 hf
      · have hf := ite_f q3 hf
        refine g_aload_n X d_MO_isAlike_38 0 rfl ?_
        refine gf_112_19 X d_MO_isAlike_39 wl_MO_58 ?_
        refine g_bipush X d_MO_isAlike_42 (v := (nI 60)) rfl ?_
        refine g_iload_n X d_MO_isAlike_44 1 rfl ?_
        refine g_imul X d_MO_isAlike_45 ?_
        refine g_iload X d_MO_isAlike_46 5 rfl ?_
        refine g_iadd X d_MO_isAlike_48 ?_
        obtain ⟨b5, hf⟩ := gd_some hf
        refine g_iald X d_MO_isAlike_49 kd_129 b5 ?_
        refine g_aload_n X d_MO_isAlike_50 0 rfl ?_
        refine gf_112_19 X d_MO_isAlike_51 wl_MO_58 ?_
        refine g_bipush X d_MO_isAlike_54 (v := (nI 60)) rfl ?_
        refine g_iload_n X d_MO_isAlike_56 2 rfl ?_
        refine g_imul X d_MO_isAlike_57 ?_
        refine g_iload X d_MO_isAlike_58 5 rfl ?_
        refine g_iadd X d_MO_isAlike_60 ?_
        obtain ⟨b6, hf⟩ := gd_some hf
        refine g_iald X d_MO_isAlike_61 kd_129 b6 ?_
        refine g_ic_ne X d_MO_isAlike_62 69 (by decide) (fun q7 => ?_) (fun q7 => ?_)
        · have hf := ite_f q7 hf
          refine g_iconst X d_MO_isAlike_69 (v := (nI 0)) rfl ?_
          refine g_istore X d_MO_isAlike_70 (lv' := [(4, .int (nI 0)), (0, .ref (Γ.2.2.1 112)), (1, .int x1), (2, .int x2), (3, .int x3), (5, .int x5)]) (Nat.le_of_ble_eq_true rfl) rfl ?_
          refine g_iinc X d_MO_isAlike_72 (j := 5) (lv' := [(5, .int (x5 + (nI 1))), (4, .int (nI 0)), (0, .ref (Γ.2.2.1 112)), (1, .int x1), (2, .int x2), (3, .int x3)]) rfl rfl (Nat.le_of_ble_eq_true rfl) rfl ?_
          refine g_goto X d_MO_isAlike_75 27 (by decide) ?_
          refine g_sub [2, 3, 4, 5, 1, 0] rfl ?_
          exact ih _ _ _ _ _ _ hf
        · have hf := ite_t q7 hf
          refine g_iconst X d_MO_isAlike_65 (v := (nI 1)) rfl ?_
          refine g_goto X d_MO_isAlike_66 70 (by decide) ?_
          refine g_istore X d_MO_isAlike_70 (lv' := [(4, .int (nI 1)), (0, .ref (Γ.2.2.1 112)), (1, .int x1), (2, .int x2), (3, .int x3), (5, .int x5)]) (Nat.le_of_ble_eq_true rfl) rfl ?_
          refine g_iinc X d_MO_isAlike_72 (j := 5) (lv' := [(5, .int (x5 + (nI 1))), (4, .int (nI 1)), (0, .ref (Γ.2.2.1 112)), (1, .int x1), (2, .int x2), (3, .int x3)]) rfl rfl (Nat.le_of_ble_eq_true rfl) rfl ?_
          refine g_goto X d_MO_isAlike_75 27 (by decide) ?_
          refine g_sub [2, 3, 4, 5, 1, 0] rfl ?_
          exact ih _ _ _ _ _ _ hf
set_option maxRecDepth 10000 in
theorem c_MO_isAlike' {Γ : Gm} {l : Launch} {x1 : Int32} {x2 : Int32} {σ σ' : Sg} {r : Int32} (hf : f_MO_isAlike x1 x2 σ = some (r, σ')) : Ctr Γ l y_MO_isAlike c_MO_isAlike 6 (some .boolean) 0 0 [.ref (Γ.2.2.1 112), .int x1, .int x2] σ σ' (some (.int r)) := by
  refine Ctr.of (lv := [(0, .ref (Γ.2.2.1 112)), (1, .int x1), (2, .int x2)]) (by decide +kernel) (Nat.le_of_ble_eq_true rfl) rfl ?_
  intro p e s m args below meth c X hr hk9
  have X : Cx Γ p (z_rm 0 0) s m args c c_MO_isAlike 6 "CaptionTalliesModel" 0 0 := X
  rw [f_MO_isAlike] at hf
  refine g_aload_n X d_MO_isAlike_0 0 rfl ?_
  refine gf_112_20 X d_MO_isAlike_1 wl_MO_61 ?_
  refine g_iload_n X d_MO_isAlike_4 1 rfl ?_
  obtain ⟨b1, hf⟩ := gd_some hf
  refine g_iald X d_MO_isAlike_5 kd_130 b1 ?_
  obtain ⟨v2, ev2, hf⟩ := lt_ex hf
  refine g_top ev2 ?_
  refine g_istore_n X d_MO_isAlike_6 rfl (lv' := [(3, .int v2), (0, .ref (Γ.2.2.1 112)), (1, .int x1), (2, .int x2)]) (Nat.le_of_ble_eq_true rfl) rfl ?_
  refine g_iload_n X d_MO_isAlike_7 0 rfl ?_
  refine g_aload_n X d_MO_isAlike_8 1 rfl ?_
  refine gf_112_20 X d_MO_isAlike_9 wl_MO_61 ?_
  refine g_iload_n X d_MO_isAlike_12 3 rfl ?_
  obtain ⟨b3, hf⟩ := gd_some hf
  refine g_iald X d_MO_isAlike_13 kd_130 b3 ?_
  refine g_ic_ne X d_MO_isAlike_14 21 (by decide) (fun q4 => ?_) (fun q4 => ?_)
  · have hf := ite_f q4 hf
    refine g_iconst X d_MO_isAlike_21 (v := (nI 0)) rfl ?_
    refine g_istore X d_MO_isAlike_22 (lv' := [(4, .int (nI 0)), (3, .int v2), (0, .ref (Γ.2.2.1 112)), (1, .int x1), (2, .int x2)]) (Nat.le_of_ble_eq_true rfl) rfl ?_
    refine g_iconst X d_MO_isAlike_24 (v := (nI 0)) rfl ?_
    refine g_istore X d_MO_isAlike_25 (lv' := [(5, .int (nI 0)), (4, .int (nI 0)), (3, .int v2), (0, .ref (Γ.2.2.1 112)), (1, .int x1), (2, .int x2)]) (Nat.le_of_ble_eq_true rfl) rfl ?_
    refine g_sub [3, 4, 5, 2, 1, 0] rfl ?_
    exact w_MO_isAlike_27 X hr hk9 _ _ _ _ _ _ _ hf
  · have hf := ite_t q4 hf
    refine g_iconst X d_MO_isAlike_17 (v := (nI 1)) rfl ?_
    refine g_goto X d_MO_isAlike_18 22 (by decide) ?_
    refine g_istore X d_MO_isAlike_22 (lv' := [(4, .int (nI 1)), (3, .int v2), (0, .ref (Γ.2.2.1 112)), (1, .int x1), (2, .int x2)]) (Nat.le_of_ble_eq_true rfl) rfl ?_
    refine g_iconst X d_MO_isAlike_24 (v := (nI 0)) rfl ?_
    refine g_istore X d_MO_isAlike_25 (lv' := [(5, .int (nI 0)), (4, .int (nI 1)), (3, .int v2), (0, .ref (Γ.2.2.1 112)), (1, .int x1), (2, .int x2)]) (Nat.le_of_ble_eq_true rfl) rfl ?_
    refine g_sub [3, 4, 5, 2, 1, 0] rfl ?_
    exact w_MO_isAlike_27 X hr hk9 _ _ _ _ _ _ _ hf
section
variable {R : Room} {kc ks : Nat} {Q : State → Prop} {nL : Nat} {cc : ByteArray} {own : String} {pc : Nat} {lv lv' : List (Nat × Value)} {st : List Value}
theorem ca_MO_isAlike {x1 : Int32} {x2 : Int32} (X : Cx Γ p R s m args c cc nL own kc ks) {idx : Nat} (hd : decode cc pc = .ok (.invokevirtual idx, 3)) (hlk : Cond.methodLink own idx y_MO_isAlike ∈ lw_gt) (hR : 0 + 1 ≤ R.frames ∧ 8 + (6 + 11) + 0 ≤ R.locals) (hw : (st.map fun v => v.category).sum ≤ 8) {σ σ' : Sg} {r : Int32} (hf : f_MO_isAlike x1 x2 σ = some (r, σ')) (k : G Γ p l e R s m args below meth c kc ks Q nL (pc + 3) lv (.int r :: st) σ') : G Γ p l e R s m args below meth c kc ks Q nL pc lv (.int x2 :: .int x1 :: .ref (Γ.2.2.1 112) :: st) σ :=
  g_callV (As := [.int x1, .int x2]) (rest := st) X hd (c_MO_isAlike' hf) co_MO_isAlike hlk wn_MO_isAlike wse_MO_isAlike (by decide) kd_112 rfl hR rfl rfl hw k
end
set_option maxRecDepth 10000 in
theorem c_MO_isLinked' {Γ : Gm} {l : Launch} {x1 : Int32} {x2 : Int32} {σ σ' : Sg} {r : Int32} (hf : f_MO_isLinked x1 x2 σ = some (r, σ')) : Ctr Γ l y_MO_isLinked c_MO_isLinked 3 (some .boolean) 0 0 [.ref (Γ.2.2.1 112), .int x1, .int x2] σ σ' (some (.int r)) := by
  refine Ctr.of (lv := [(0, .ref (Γ.2.2.1 112)), (1, .int x1), (2, .int x2)]) (by decide +kernel) (Nat.le_of_ble_eq_true rfl) rfl ?_
  intro p e s m args below meth c X hr hk9
  have X : Cx Γ p (z_rm 0 0) s m args c c_MO_isLinked 3 "CaptionTalliesModel" 0 0 := X
  rw [f_MO_isLinked] at hf
  refine g_aload_n X d_MO_isLinked_0 0 rfl ?_
  refine gf_112_0 X d_MO_isLinked_1 wl_MO_7 ?_
  refine g_bipush X d_MO_isLinked_4 (v := (nI 49)) rfl ?_
  refine g_iload_n X d_MO_isLinked_6 1 rfl ?_
  refine g_iadd X d_MO_isLinked_7 ?_
  obtain ⟨b1, hf⟩ := gd_some hf
  refine g_iald X d_MO_isLinked_8 kd_113 b1 ?_
  refine g_iload_n X d_MO_isLinked_9 2 rfl ?_
  refine g_ishr X d_MO_isLinked_10 ?_
  refine g_iconst X d_MO_isLinked_11 (v := (nI 1)) rfl ?_
  refine g_iand X d_MO_isLinked_12 ?_
  refine g_iconst X d_MO_isLinked_13 (v := (nI 1)) rfl ?_
  refine g_ic_ne X d_MO_isLinked_14 21 (by decide) (fun q2 => ?_) (fun q2 => ?_)
  · have hf := ite_f q2 hf
    refine g_iconst X d_MO_isLinked_21 (v := (nI 0)) rfl ?_
    exact g_zret X d_MO_isLinked_22 hr hk9 rfl hf
  · have hf := ite_t q2 hf
    refine g_iconst X d_MO_isLinked_17 (v := (nI 1)) rfl ?_
    refine g_goto X d_MO_isLinked_18 22 (by decide) ?_
    exact g_zret X d_MO_isLinked_22 hr hk9 rfl hf
section
variable {R : Room} {kc ks : Nat} {Q : State → Prop} {nL : Nat} {cc : ByteArray} {own : String} {pc : Nat} {lv lv' : List (Nat × Value)} {st : List Value}
theorem ca_MO_isLinked {x1 : Int32} {x2 : Int32} (X : Cx Γ p R s m args c cc nL own kc ks) {idx : Nat} (hd : decode cc pc = .ok (.invokevirtual idx, 3)) (hlk : Cond.methodLink own idx y_MO_isLinked ∈ lw_gt) (hR : 0 + 1 ≤ R.frames ∧ 8 + (3 + 11) + 0 ≤ R.locals) (hw : (st.map fun v => v.category).sum ≤ 8) {σ σ' : Sg} {r : Int32} (hf : f_MO_isLinked x1 x2 σ = some (r, σ')) (k : G Γ p l e R s m args below meth c kc ks Q nL (pc + 3) lv (.int r :: st) σ') : G Γ p l e R s m args below meth c kc ks Q nL pc lv (.int x2 :: .int x1 :: .ref (Γ.2.2.1 112) :: st) σ :=
  g_callV (As := [.int x1, .int x2]) (rest := st) X hd (c_MO_isLinked' hf) co_MO_isLinked hlk wn_MO_isLinked wse_MO_isLinked (by decide) kd_112 rfl hR rfl rfl hw k
end
set_option maxRecDepth 10000 in
theorem w_MO_far_197 {K43 : Int32 → Int32 → Int32 → Int32 → Int32 → Sg → Option (Int32 × Sg)} {r : Int32} {σ' : Sg} (X : Cx Γ p (z_rm 0 0) s m args c c_MO_far 9 "CaptionTalliesModel" 0 0) (hr : meth.sig.returnType = (some .int)) (hk9 : meth.locks = false) (hK43 : ∀ (x1 : Int32) (x2 : Int32) (x3 : Int32) (x4 : Int32) (x5 : Int32) (σ : Sg), K43 x1 x2 x3 x4 x5 σ = some (r, σ') → G Γ p l e (z_rm 0 0) s m args below meth c 0 0 (MQ below (Qx Γ (some (.int r)) σ') args s 0 0 (fun q : Nat => Γ.2.2.2 ≤ q)) 9 43 [(0, .ref (Γ.2.2.1 112)), (1, .int x1), (2, .int x2), (3, .int x3), (4, .int x4), (5, .int x5)] [] σ) : ∀ (n9 : Nat) (x1 : Int32) (x2 : Int32) (x3 : Int32) (x4 : Int32) (x5 : Int32) (x7 : Int32) (σ : Sg), f_MO_far_197 K43 n9 x1 x2 x3 x4 x5 x7 σ = some (r, σ') → G Γ p l e (z_rm 0 0) s m args below meth c 0 0 (MQ below (Qx Γ (some (.int r)) σ') args s 0 0 (fun q : Nat => Γ.2.2.2 ≤ q)) 9 197 [(0, .ref (Γ.2.2.1 112)), (1, .int x1), (2, .int x2), (3, .int x3), (4, .int x4), (5, .int x5), (7, .int x7)] [] σ := by
  intro n9
  induction n9 with
  | zero => intro x1 x2 x3 x4 x5 x7 σ hf; cases hf
  | succ n9 ih =>
    intro x1 x2 x3 x4 x5 x7 σ hf
    rw [f_MO_far_197] at hf
    refine g_iload X d_MO_far_197 6 rfl ?_
    refine g_iload X d_MO_far_199 4 rfl ?_
    refine g_ic_gt X d_MO_far_201 224 (by decide) (fun q1 => ?_) (fun q1 => ?_)
    · have hf := ite_t q1 hf
      refine g_iinc X d_MO_far_224 (j := 5) (lv' := [(5, .int (x5 + (nI 1))), (0, .ref (Γ.2.2.1 112)), (1, .int x1), (2, .int x2), (3, .int x3), (4, .int x4), (7, .int x7)]) rfl rfl (Nat.le_of_ble_eq_true rfl) rfl ?_
      refine g_goto X d_MO_far_227 43 (by decide) ?_
      refine g_sub [1, 2, 3, 4, 5, 0] rfl ?_
      exact hK43 _ _ _ _ _ _ hf
    · have hf := ite_f q1 hf
      refine g_aload_n X d_MO_far_204 0 rfl ?_
      refine gf_112_21 X d_MO_far_205 wl_MO_64 ?_
      refine g_iload X d_MO_far_208 6 rfl ?_
      refine g_aload_n X d_MO_far_210 0 rfl ?_
      refine gf_112_22 X d_MO_far_211 wl_MO_67 ?_
      refine g_iload X d_MO_far_214 6 rfl ?_
      obtain ⟨b2, hf⟩ := gd_some hf
      refine g_iald X d_MO_far_216 kd_132 b2 ?_
      obtain ⟨b3, hf⟩ := gd_some hf
      obtain ⟨σ4, eσ4, hf⟩ := lt_ex hf
      refine g_iast X d_MO_far_217 kd_131 b3 eσ4 ?_
      refine g_iinc X d_MO_far_218 (j := 6) (lv' := [(7, .int (x7 + (nI 1))), (0, .ref (Γ.2.2.1 112)), (1, .int x1), (2, .int x2), (3, .int x3), (4, .int x4), (5, .int x5)]) rfl rfl (Nat.le_of_ble_eq_true rfl) rfl ?_
      refine g_goto X d_MO_far_221 197 (by decide) ?_
      refine g_sub [1, 2, 3, 4, 5, 6, 0] rfl ?_
      exact ih _ _ _ _ _ _ _ hf
set_option maxRecDepth 10000 in
theorem w_MO_far_187 {K76 : Int32 → Int32 → Int32 → Int32 → Int32 → Int32 → Int32 → Sg → Option (Int32 × Sg)} {r : Int32} {σ' : Sg} (X : Cx Γ p (z_rm 0 0) s m args c c_MO_far 9 "CaptionTalliesModel" 0 0) (hr : meth.sig.returnType = (some .int)) (hk9 : meth.locks = false) (hK76 : ∀ (x1 : Int32) (x2 : Int32) (x3 : Int32) (x4 : Int32) (x5 : Int32) (x6 : Int32) (x7 : Int32) (σ : Sg), K76 x1 x2 x3 x4 x5 x6 x7 σ = some (r, σ') → G Γ p l e (z_rm 0 0) s m args below meth c 0 0 (MQ below (Qx Γ (some (.int r)) σ') args s 0 0 (fun q : Nat => Γ.2.2.2 ≤ q)) 9 76 [(0, .ref (Γ.2.2.1 112)), (1, .int x1), (2, .int x2), (3, .int x3), (4, .int x4), (5, .int x5), (6, .int x6), (7, .int x7)] [] σ)  (x1 : Int32) (x2 : Int32) (x3 : Int32) (x4 : Int32) (x5 : Int32) (x6 : Int32) (x7 : Int32) (t0 : Int32) (t1 : Int32) (σ : Sg) (hf : f_MO_far_187 K76 x1 x2 x3 x4 x5 x6 x7 t0 t1 σ = some (r, σ')) : G Γ p l e (z_rm 0 0) s m args below meth c 0 0 (MQ below (Qx Γ (some (.int r)) σ') args s 0 0 (fun q : Nat => Γ.2.2.2 ≤ q)) 9 187 [(0, .ref (Γ.2.2.1 112)), (1, .int x1), (2, .int x2), (3, .int x3), (4, .int x4), (5, .int x5), (6, .int x6), (7, .int x7)] [.int t0, .int t1, .ref (Γ.2.2.1 132)] σ := by
  rw [f_MO_far_187] at hf
  obtain ⟨b1, hf⟩ := gd_some hf
  obtain ⟨σ2, eσ2, hf⟩ := lt_ex hf
  refine g_iast X d_MO_far_187 kd_132 b1 eσ2 ?_
  refine g_iinc X d_MO_far_188 (j := 7) (lv' := [(7, .int (x7 + (nI 1))), (0, .ref (Γ.2.2.1 112)), (1, .int x1), (2, .int x2), (3, .int x3), (4, .int x4), (5, .int x5), (6, .int x6)]) rfl rfl (Nat.le_of_ble_eq_true rfl) rfl ?_
  refine g_goto X d_MO_far_191 76 (by decide) ?_
  refine g_sub [1, 2, 3, 4, 5, 6, 7, 0] rfl ?_
  exact hK76 _ _ _ _ _ _ _ _ hf
set_option maxRecDepth 10000 in
theorem w_MO_far_147 {K76 : Int32 → Int32 → Int32 → Int32 → Int32 → Int32 → Int32 → Sg → Option (Int32 × Sg)} {r : Int32} {σ' : Sg} (X : Cx Γ p (z_rm 0 0) s m args c c_MO_far 9 "CaptionTalliesModel" 0 0) (hr : meth.sig.returnType = (some .int)) (hk9 : meth.locks = false) (hK76 : ∀ (x1 : Int32) (x2 : Int32) (x3 : Int32) (x4 : Int32) (x5 : Int32) (x6 : Int32) (x7 : Int32) (σ : Sg), K76 x1 x2 x3 x4 x5 x6 x7 σ = some (r, σ') → G Γ p l e (z_rm 0 0) s m args below meth c 0 0 (MQ below (Qx Γ (some (.int r)) σ') args s 0 0 (fun q : Nat => Γ.2.2.2 ≤ q)) 9 76 [(0, .ref (Γ.2.2.1 112)), (1, .int x1), (2, .int x2), (3, .int x3), (4, .int x4), (5, .int x5), (6, .int x6), (7, .int x7)] [] σ)  (x1 : Int32) (x2 : Int32) (x3 : Int32) (x4 : Int32) (x5 : Int32) (x6 : Int32) (x7 : Int32) (t0 : Int32) (σ : Sg) (hf : f_MO_far_147 K76 x1 x2 x3 x4 x5 x6 x7 t0 σ = some (r, σ')) : G Γ p l e (z_rm 0 0) s m args below meth c 0 0 (MQ below (Qx Γ (some (.int r)) σ') args s 0 0 (fun q : Nat => Γ.2.2.2 ≤ q)) 9 147 [(0, .ref (Γ.2.2.1 112)), (1, .int x1), (2, .int x2), (3, .int x3), (4, .int x4), (5, .int x5), (6, .int x6), (7, .int x7)] [.int t0] σ := by
  rw [f_MO_far_147] at hf
  refine g_istore X d_MO_far_147 (lv' := [(8, .int t0), (0, .ref (Γ.2.2.1 112)), (1, .int x1), (2, .int x2), (3, .int x3), (4, .int x4), (5, .int x5), (6, .int x6), (7, .int x7)]) (Nat.le_of_ble_eq_true rfl) rfl ?_
  refine g_aload_n X d_MO_far_149 1 rfl ?_
  refine gf_112_22 X d_MO_far_150 wl_MO_67 ?_
  refine g_iload X d_MO_far_153 8 rfl ?_
  refine g_aload_n X d_MO_far_155 1 rfl ?_
  refine gf_112_22 X d_MO_far_156 wl_MO_67 ?_
  refine g_iload X d_MO_far_159 8 rfl ?_
  refine g_iconst X d_MO_far_161 (v := (nI 1)) rfl ?_
  refine g_isub X d_MO_far_162 ?_
  obtain ⟨b1, hf⟩ := gd_some hf
  refine g_iald X d_MO_far_163 kd_132 b1 ?_
  refine g_iconst X d_MO_far_164 (v := (nI 1)) rfl ?_
  refine g_iadd X d_MO_far_165 ?_
  refine g_iload X d_MO_far_166 0 rfl ?_
  refine g_ic_ge X d_MO_far_168 185 (by decide) (fun q2 => ?_) (fun q2 => ?_)
  · have hf := ite_t q2 hf
    refine g_iload X d_MO_far_185 0 rfl ?_
    refine g_sub [1, 2, 3, 4, 5, 6, 7, 8] rfl ?_
    exact w_MO_far_187 X hr hk9 hK76 _ _ _ _ _ _ _ _ _ _ hf
  · have hf := ite_f q2 hf
    refine g_aload_n X d_MO_far_171 1 rfl ?_
    refine gf_112_22 X d_MO_far_172 wl_MO_67 ?_
    refine g_iload X d_MO_far_175 8 rfl ?_
    refine g_iconst X d_MO_far_177 (v := (nI 1)) rfl ?_
    refine g_isub X d_MO_far_178 ?_
    obtain ⟨b3, hf⟩ := gd_some hf
    refine g_iald X d_MO_far_179 kd_132 b3 ?_
    refine g_iconst X d_MO_far_180 (v := (nI 1)) rfl ?_
    refine g_iadd X d_MO_far_181 ?_
    refine g_goto X d_MO_far_182 187 (by decide) ?_
    refine g_sub [1, 2, 3, 4, 5, 6, 7, 8] rfl ?_
    exact w_MO_far_187 X hr hk9 hK76 _ _ _ _ _ _ _ _ _ _ hf
set_option maxRecDepth 10000 in
theorem w_MO_far_116 {K76 : Int32 → Int32 → Int32 → Int32 → Int32 → Int32 → Int32 → Sg → Option (Int32 × Sg)} {r : Int32} {σ' : Sg} (X : Cx Γ p (z_rm 0 0) s m args c c_MO_far 9 "CaptionTalliesModel" 0 0) (hr : meth.sig.returnType = (some .int)) (hk9 : meth.locks = false) (hK76 : ∀ (x1 : Int32) (x2 : Int32) (x3 : Int32) (x4 : Int32) (x5 : Int32) (x6 : Int32) (x7 : Int32) (σ : Sg), K76 x1 x2 x3 x4 x5 x6 x7 σ = some (r, σ') → G Γ p l e (z_rm 0 0) s m args below meth c 0 0 (MQ below (Qx Γ (some (.int r)) σ') args s 0 0 (fun q : Nat => Γ.2.2.2 ≤ q)) 9 76 [(0, .ref (Γ.2.2.1 112)), (1, .int x1), (2, .int x2), (3, .int x3), (4, .int x4), (5, .int x5), (6, .int x6), (7, .int x7)] [] σ)  (x1 : Int32) (x2 : Int32) (x3 : Int32) (x4 : Int32) (x5 : Int32) (x6 : Int32) (x7 : Int32) (t0 : Int32) (t1 : Int32) (σ : Sg) (hf : f_MO_far_116 K76 x1 x2 x3 x4 x5 x6 x7 t0 t1 σ = some (r, σ')) : G Γ p l e (z_rm 0 0) s m args below meth c 0 0 (MQ below (Qx Γ (some (.int r)) σ') args s 0 0 (fun q : Nat => Γ.2.2.2 ≤ q)) 9 116 [(0, .ref (Γ.2.2.1 112)), (1, .int x1), (2, .int x2), (3, .int x3), (4, .int x4), (5, .int x5), (6, .int x6), (7, .int x7)] [.int t0, .int t1] σ := by
  rw [f_MO_far_116] at hf
  refine g_iadd X d_MO_far_116 ?_
  obtain ⟨v1, ev1, hf⟩ := lt_ex hf
  refine g_top ev1 ?_
  refine g_istore X d_MO_far_117 (lv' := [(8, .int v1), (0, .ref (Γ.2.2.1 112)), (1, .int x1), (2, .int x2), (3, .int x3), (4, .int x4), (5, .int x5), (6, .int x6), (7, .int x7)]) (Nat.le_of_ble_eq_true rfl) rfl ?_
  refine g_aload_n X d_MO_far_119 1 rfl ?_
  refine gf_112_21 X d_MO_far_120 wl_MO_64 ?_
  refine g_iload X d_MO_far_123 8 rfl ?_
  obtain ⟨b2, hf⟩ := gd_some hf
  refine g_iald X d_MO_far_125 kd_131 b2 ?_
  refine g_iconst X d_MO_far_126 (v := (nI 1)) rfl ?_
  refine g_iadd X d_MO_far_127 ?_
  refine g_iload X d_MO_far_128 0 rfl ?_
  refine g_ic_ge X d_MO_far_130 145 (by decide) (fun q3 => ?_) (fun q3 => ?_)
  · have hf := ite_t q3 hf
    refine g_iload X d_MO_far_145 0 rfl ?_
    refine g_sub [1, 2, 3, 4, 5, 6, 7, 8] rfl ?_
    exact w_MO_far_147 X hr hk9 hK76 _ _ _ _ _ _ _ _ _ hf
  · have hf := ite_f q3 hf
    refine g_aload_n X d_MO_far_133 1 rfl ?_
    refine gf_112_21 X d_MO_far_134 wl_MO_64 ?_
    refine g_iload X d_MO_far_137 8 rfl ?_
    obtain ⟨b4, hf⟩ := gd_some hf
    refine g_iald X d_MO_far_139 kd_131 b4 ?_
    refine g_iconst X d_MO_far_140 (v := (nI 1)) rfl ?_
    refine g_iadd X d_MO_far_141 ?_
    refine g_goto X d_MO_far_142 147 (by decide) ?_
    refine g_sub [1, 2, 3, 4, 5, 6, 7, 8] rfl ?_
    exact w_MO_far_147 X hr hk9 hK76 _ _ _ _ _ _ _ _ _ hf
set_option maxRecDepth 10000 in
theorem w_MO_far_76 {K43 : Int32 → Int32 → Int32 → Int32 → Int32 → Sg → Option (Int32 × Sg)} {r : Int32} {σ' : Sg} (X : Cx Γ p (z_rm 0 0) s m args c c_MO_far 9 "CaptionTalliesModel" 0 0) (hr : meth.sig.returnType = (some .int)) (hk9 : meth.locks = false) (hK43 : ∀ (x1 : Int32) (x2 : Int32) (x3 : Int32) (x4 : Int32) (x5 : Int32) (σ : Sg), K43 x1 x2 x3 x4 x5 σ = some (r, σ') → G Γ p l e (z_rm 0 0) s m args below meth c 0 0 (MQ below (Qx Γ (some (.int r)) σ') args s 0 0 (fun q : Nat => Γ.2.2.2 ≤ q)) 9 43 [(0, .ref (Γ.2.2.1 112)), (1, .int x1), (2, .int x2), (3, .int x3), (4, .int x4), (5, .int x5)] [] σ) : ∀ (n9 : Nat) (x1 : Int32) (x2 : Int32) (x3 : Int32) (x4 : Int32) (x5 : Int32) (x6 : Int32) (x7 : Int32) (σ : Sg), f_MO_far_76 K43 n9 x1 x2 x3 x4 x5 x6 x7 σ = some (r, σ') → G Γ p l e (z_rm 0 0) s m args below meth c 0 0 (MQ below (Qx Γ (some (.int r)) σ') args s 0 0 (fun q : Nat => Γ.2.2.2 ≤ q)) 9 76 [(0, .ref (Γ.2.2.1 112)), (1, .int x1), (2, .int x2), (3, .int x3), (4, .int x4), (5, .int x5), (6, .int x6), (7, .int x7)] [] σ := by
  intro n9
  induction n9 with
  | zero => intro x1 x2 x3 x4 x5 x6 x7 σ hf; cases hf
  | succ n9 ih =>
    intro x1 x2 x3 x4 x5 x6 x7 σ hf
    rw [f_MO_far_76] at hf
    refine g_iload X d_MO_far_76 7 rfl ?_
    refine g_iload X d_MO_far_78 4 rfl ?_
    refine g_ic_gt X d_MO_far_80 194 (by decide) (fun q1 => ?_) (fun q1 => ?_)
    · have hf := ite_t q1 hf
      refine g_iconst X d_MO_far_194 (v := (nI 0)) rfl ?_
      refine g_istore X d_MO_far_195 (lv' := [(7, .int (nI 0)), (0, .ref (Γ.2.2.1 112)), (1, .int x1), (2, .int x2), (3, .int x3), (4, .int x4), (5, .int x5), (6, .int x6)]) (Nat.le_of_ble_eq_true rfl) rfl ?_
      refine g_sub [1, 2, 3, 4, 5, 6, 0] rfl ?_
      exact w_MO_far_197 X hr hk9 hK43 _ _ _ _ _ _ _ _ hf
    · have hf := ite_f q1 hf
      refine g_aload_n X d_MO_far_83 0 rfl ?_
      refine gf_112_21 X d_MO_far_84 wl_MO_64 ?_
      refine g_iload X d_MO_far_87 7 rfl ?_
      refine g_iconst X d_MO_far_89 (v := (nI 1)) rfl ?_
      refine g_isub X d_MO_far_90 ?_
      obtain ⟨b2, hf⟩ := gd_some hf
      refine g_iald X d_MO_far_91 kd_131 b2 ?_
      refine g_iload X d_MO_far_92 6 rfl ?_
      refine g_aload_n X d_MO_far_94 0 rfl ?_
      refine gf_112_19 X d_MO_far_95 wl_MO_58 ?_
      refine g_bipush X d_MO_far_98 (v := (nI 60)) rfl ?_
      refine g_iload_n X d_MO_far_100 2 rfl ?_
      refine g_imul X d_MO_far_101 ?_
      refine g_iload X d_MO_far_102 7 rfl ?_
      refine g_iadd X d_MO_far_104 ?_
      refine g_iconst X d_MO_far_105 (v := (nI 1)) rfl ?_
      refine g_isub X d_MO_far_106 ?_
      obtain ⟨b3, hf⟩ := gd_some hf
      refine g_iald X d_MO_far_107 kd_129 b3 ?_
      refine g_ic_ne X d_MO_far_108 115 (by decide) (fun q4 => ?_) (fun q4 => ?_)
      · have hf := ite_f q4 hf
        refine g_iconst X d_MO_far_115 (v := (nI 1)) rfl ?_
        exact w_MO_far_116 X hr hk9 ih _ _ _ _ _ _ _ _ _ _ hf
      · have hf := ite_t q4 hf
        refine g_iconst X d_MO_far_111 (v := (nI 0)) rfl ?_
        refine g_goto X d_MO_far_112 116 (by decide) ?_
        exact w_MO_far_116 X hr hk9 ih _ _ _ _ _ _ _ _ _ _ hf
set_option maxRecDepth 10000 in
theorem w_MO_far_43 {r : Int32} {σ' : Sg} (X : Cx Γ p (z_rm 0 0) s m args c c_MO_far 9 "CaptionTalliesModel" 0 0) (hr : meth.sig.returnType = (some .int)) (hk9 : meth.locks = false) : ∀ (n9 : Nat) (x1 : Int32) (x2 : Int32) (x3 : Int32) (x4 : Int32) (x5 : Int32) (σ : Sg), f_MO_far_43 n9 x1 x2 x3 x4 x5 σ = some (r, σ') → G Γ p l e (z_rm 0 0) s m args below meth c 0 0 (MQ below (Qx Γ (some (.int r)) σ') args s 0 0 (fun q : Nat => Γ.2.2.2 ≤ q)) 9 43 [(0, .ref (Γ.2.2.1 112)), (1, .int x1), (2, .int x2), (3, .int x3), (4, .int x4), (5, .int x5)] [] σ := by
  intro n9
  induction n9 with
  | zero => intro x1 x2 x3 x4 x5 σ hf; cases hf
  | succ n9 ih =>
    intro x1 x2 x3 x4 x5 σ hf
    rw [f_MO_far_43] at hf
    refine g_iload X d_MO_far_43 5 rfl ?_
    refine g_iload_n X d_MO_far_45 3 rfl ?_
    refine g_ic_gt X d_MO_far_46 230 (by decide) (fun q1 => ?_) (fun q1 => ?_)
    · have hf := ite_t q1 hf
      refine g_aload_n X d_MO_far_230 0 rfl ?_
      refine gf_112_21 X d_MO_far_231 wl_MO_64 ?_
      refine g_iload X d_MO_far_234 4 rfl ?_
      obtain ⟨b2, hf⟩ := gd_some hf
      refine g_iald X d_MO_far_236 kd_131 b2 ?_
      exact g_iret X d_MO_far_237 hr hk9 hf
    · have hf := ite_f q1 hf
      refine g_aload_n X d_MO_far_49 0 rfl ?_
      refine gf_112_19 X d_MO_far_50 wl_MO_58 ?_
      refine g_bipush X d_MO_far_53 (v := (nI 60)) rfl ?_
      refine g_iload_n X d_MO_far_55 1 rfl ?_
      refine g_imul X d_MO_far_56 ?_
      refine g_iload X d_MO_far_57 5 rfl ?_
      refine g_iadd X d_MO_far_59 ?_
      refine g_iconst X d_MO_far_60 (v := (nI 1)) rfl ?_
      refine g_isub X d_MO_far_61 ?_
      obtain ⟨b3, hf⟩ := gd_some hf
      refine g_iald X d_MO_far_62 kd_129 b3 ?_
      obtain ⟨v4, ev4, hf⟩ := lt_ex hf
      refine g_top ev4 ?_
      refine g_istore X d_MO_far_63 (lv' := [(6, .int v4), (0, .ref (Γ.2.2.1 112)), (1, .int x1), (2, .int x2), (3, .int x3), (4, .int x4), (5, .int x5)]) (Nat.le_of_ble_eq_true rfl) rfl ?_
      refine g_aload_n X d_MO_far_65 1 rfl ?_
      refine gf_112_22 X d_MO_far_66 wl_MO_67 ?_
      refine g_iconst X d_MO_far_69 (v := (nI 0)) rfl ?_
      refine g_iload X d_MO_far_70 6 rfl ?_
      obtain ⟨b5, hf⟩ := gd_some hf
      obtain ⟨σ6, eσ6, hf⟩ := lt_ex hf
      refine g_iast X d_MO_far_72 kd_132 b5 eσ6 ?_
      refine g_iconst X d_MO_far_73 (v := (nI 1)) rfl ?_
      refine g_istore X d_MO_far_74 (lv' := [(7, .int (nI 1)), (6, .int v4), (0, .ref (Γ.2.2.1 112)), (1, .int x1), (2, .int x2), (3, .int x3), (4, .int x4), (5, .int x5)]) (Nat.le_of_ble_eq_true rfl) rfl ?_
      refine g_sub [2, 3, 4, 5, 6, 7, 1, 0] rfl ?_
      exact w_MO_far_76 X hr hk9 ih _ _ _ _ _ _ _ _ _ hf
set_option maxRecDepth 10000 in
theorem w_MO_far_18 {r : Int32} {σ' : Sg} (X : Cx Γ p (z_rm 0 0) s m args c c_MO_far 9 "CaptionTalliesModel" 0 0) (hr : meth.sig.returnType = (some .int)) (hk9 : meth.locks = false) : ∀ (n9 : Nat) (x1 : Int32) (x2 : Int32) (x3 : Int32) (x4 : Int32) (x5 : Int32) (σ : Sg), f_MO_far_18 n9 x1 x2 x3 x4 x5 σ = some (r, σ') → G Γ p l e (z_rm 0 0) s m args below meth c 0 0 (MQ below (Qx Γ (some (.int r)) σ') args s 0 0 (fun q : Nat => Γ.2.2.2 ≤ q)) 9 18 [(0, .ref (Γ.2.2.1 112)), (1, .int x1), (2, .int x2), (3, .int x3), (4, .int x4), (5, .int x5)] [] σ := by
  intro n9
  induction n9 with
  | zero => intro x1 x2 x3 x4 x5 σ hf; cases hf
  | succ n9 ih =>
    intro x1 x2 x3 x4 x5 σ hf
    rw [f_MO_far_18] at hf
    refine g_iload X d_MO_far_18 5 rfl ?_
    refine g_iload X d_MO_far_20 4 rfl ?_
    refine g_ic_gt X d_MO_far_22 40 (by decide) (fun q1 => ?_) (fun q1 => ?_)
    · have hf := ite_t q1 hf
      refine g_iconst X d_MO_far_40 (v := (nI 1)) rfl ?_
      refine g_istore X d_MO_far_41 (lv' := [(5, .int (nI 1)), (0, .ref (Γ.2.2.1 112)), (1, .int x1), (2, .int x2), (3, .int x3), (4, .int x4)]) (Nat.le_of_ble_eq_true rfl) rfl ?_
      refine g_sub [1, 2, 3, 4, 5, 0] rfl ?_
      exact w_MO_far_43 X hr hk9 _ _ _ _ _ _ _ hf
    · have hf := ite_f q1 hf
      refine g_aload_n X d_MO_far_25 0 rfl ?_
      refine gf_112_21 X d_MO_far_26 wl_MO_64 ?_
      refine g_iload X d_MO_far_29 5 rfl ?_
      refine g_iload X d_MO_far_31 5 rfl ?_
      obtain ⟨b2, hf⟩ := gd_some hf
      obtain ⟨σ3, eσ3, hf⟩ := lt_ex hf
      refine g_iast X d_MO_far_33 kd_131 b2 eσ3 ?_
      refine g_iinc X d_MO_far_34 (j := 5) (lv' := [(5, .int (x5 + (nI 1))), (0, .ref (Γ.2.2.1 112)), (1, .int x1), (2, .int x2), (3, .int x3), (4, .int x4)]) rfl rfl (Nat.le_of_ble_eq_true rfl) rfl ?_
      refine g_goto X d_MO_far_37 18 (by decide) ?_
      refine g_sub [1, 2, 3, 4, 5, 0] rfl ?_
      exact ih _ _ _ _ _ _ hf
set_option maxRecDepth 10000 in
theorem c_MO_far' {Γ : Gm} {l : Launch} {x1 : Int32} {x2 : Int32} {σ σ' : Sg} {r : Int32} (hf : f_MO_far x1 x2 σ = some (r, σ')) : Ctr Γ l y_MO_far c_MO_far 9 (some .int) 0 0 [.ref (Γ.2.2.1 112), .int x1, .int x2] σ σ' (some (.int r)) := by
  refine Ctr.of (lv := [(0, .ref (Γ.2.2.1 112)), (1, .int x1), (2, .int x2)]) (by decide +kernel) (Nat.le_of_ble_eq_true rfl) rfl ?_
  intro p e s m args below meth c X hr hk9
  have X : Cx Γ p (z_rm 0 0) s m args c c_MO_far 9 "CaptionTalliesModel" 0 0 := X
  rw [f_MO_far] at hf
  refine g_aload_n X d_MO_far_0 0 rfl ?_
  refine gf_112_20 X d_MO_far_1 wl_MO_61 ?_
  refine g_iload_n X d_MO_far_4 1 rfl ?_
  obtain ⟨b1, hf⟩ := gd_some hf
  refine g_iald X d_MO_far_5 kd_130 b1 ?_
  obtain ⟨v2, ev2, hf⟩ := lt_ex hf
  refine g_top ev2 ?_
  refine g_istore_n X d_MO_far_6 rfl (lv' := [(3, .int v2), (0, .ref (Γ.2.2.1 112)), (1, .int x1), (2, .int x2)]) (Nat.le_of_ble_eq_true rfl) rfl ?_
  refine g_aload_n X d_MO_far_7 1 rfl ?_
  refine gf_112_20 X d_MO_far_8 wl_MO_61 ?_
  refine g_iload_n X d_MO_far_11 3 rfl ?_
  obtain ⟨b3, hf⟩ := gd_some hf
  refine g_iald X d_MO_far_12 kd_130 b3 ?_
  obtain ⟨v4, ev4, hf⟩ := lt_ex hf
  refine g_top ev4 ?_
  refine g_istore X d_MO_far_13 (lv' := [(4, .int v4), (3, .int v2), (0, .ref (Γ.2.2.1 112)), (1, .int x1), (2, .int x2)]) (Nat.le_of_ble_eq_true rfl) rfl ?_
  refine g_iconst X d_MO_far_15 (v := (nI 0)) rfl ?_
  refine g_istore X d_MO_far_16 (lv' := [(5, .int (nI 0)), (4, .int v4), (3, .int v2), (0, .ref (Γ.2.2.1 112)), (1, .int x1), (2, .int x2)]) (Nat.le_of_ble_eq_true rfl) rfl ?_
  refine g_sub [3, 4, 5, 2, 1, 0] rfl ?_
  exact w_MO_far_18 X hr hk9 _ _ _ _ _ _ _ hf
section
variable {R : Room} {kc ks : Nat} {Q : State → Prop} {nL : Nat} {cc : ByteArray} {own : String} {pc : Nat} {lv lv' : List (Nat × Value)} {st : List Value}
theorem ca_MO_far {x1 : Int32} {x2 : Int32} (X : Cx Γ p R s m args c cc nL own kc ks) {idx : Nat} (hd : decode cc pc = .ok (.invokevirtual idx, 3)) (hlk : Cond.methodLink own idx y_MO_far ∈ lw_gt) (hR : 0 + 1 ≤ R.frames ∧ 8 + (9 + 11) + 0 ≤ R.locals) (hw : (st.map fun v => v.category).sum ≤ 8) {σ σ' : Sg} {r : Int32} (hf : f_MO_far x1 x2 σ = some (r, σ')) (k : G Γ p l e R s m args below meth c kc ks Q nL (pc + 3) lv (.int r :: st) σ') : G Γ p l e R s m args below meth c kc ks Q nL pc lv (.int x2 :: .int x1 :: .ref (Γ.2.2.1 112) :: st) σ :=
  g_callV (As := [.int x1, .int x2]) (rest := st) X hd (c_MO_far' hf) co_MO_far hlk wn_MO_far wse_MO_far (by decide) kd_112 rfl hR rfl rfl hw k
end
set_option maxRecDepth 10000 in
theorem w_MO_heads_215 {K185 : Int32 → Sg → Option (Int32 × Sg)} {r : Int32} {σ' : Sg} (X : Cx Γ p (z_rm 3 65) s m args c c_MO_heads 5 "CaptionTalliesModel" 0 0) (hr : meth.sig.returnType = none) (hk9 : meth.locks = false) (hK185 : ∀ (x2 : Int32) (σ : Sg), K185 x2 σ = some (r, σ') → G Γ p l e (z_rm 3 65) s m args below meth c 0 0 (MQ below (Qx Γ none σ') args s 0 0 (fun q : Nat => Γ.2.2.2 ≤ q)) 5 185 [(0, .ref (Γ.2.2.1 112)), (2, .int x2)] [] σ)  (x2 : Int32) (t0 : Int32) (t1 : Int32) (σ : Sg) (hf : f_MO_heads_215 K185 x2 t0 t1 σ = some (r, σ')) : G Γ p l e (z_rm 3 65) s m args below meth c 0 0 (MQ below (Qx Γ none σ') args s 0 0 (fun q : Nat => Γ.2.2.2 ≤ q)) 5 215 [(0, .ref (Γ.2.2.1 112)), (2, .int x2)] [.int t0, .int t1, .ref (Γ.2.2.1 112)] σ := by
  rw [f_MO_heads_215] at hf
  refine g_iadd X d_MO_heads_215 ?_
  obtain ⟨σ1, eσ1, hf⟩ := lt_ex hf
  refine gp_112_23 X d_MO_heads_216 wl_MO_93 eσ1 ?_
  refine g_iinc X d_MO_heads_219 (j := 1) (lv' := [(2, .int (x2 + (nI 1))), (0, .ref (Γ.2.2.1 112))]) rfl rfl (Nat.le_of_ble_eq_true rfl) rfl ?_
  refine g_goto X d_MO_heads_222 185 (by decide) ?_
  refine g_sub [1, 0] rfl ?_
  exact hK185 _ _ hf
set_option maxRecDepth 10000 in
theorem w_MO_heads_185 {r : Int32} {σ' : Sg} (X : Cx Γ p (z_rm 3 65) s m args c c_MO_heads 5 "CaptionTalliesModel" 0 0) (hr : meth.sig.returnType = none) (hk9 : meth.locks = false) : ∀ (n9 : Nat) (x2 : Int32) (σ : Sg), f_MO_heads_185 n9 x2 σ = some (r, σ') → G Γ p l e (z_rm 3 65) s m args below meth c 0 0 (MQ below (Qx Γ none σ') args s 0 0 (fun q : Nat => Γ.2.2.2 ≤ q)) 5 185 [(0, .ref (Γ.2.2.1 112)), (2, .int x2)] [] σ := by
  intro n9
  induction n9 with
  | zero => intro x2 σ hf; cases hf
  | succ n9 ih =>
    intro x2 σ hf
    rw [f_MO_heads_185] at hf
    refine g_iload_n X d_MO_heads_185 1 rfl ?_
    refine g_aload_n X d_MO_heads_186 0 rfl ?_
    refine gf_112_0 X d_MO_heads_187 wl_MO_7 ?_
    refine g_iconst X d_MO_heads_190 (v := (nI 0)) rfl ?_
    obtain ⟨b1, hf⟩ := gd_some hf
    refine g_iald X d_MO_heads_191 kd_113 b1 ?_
    refine g_ic_ge X d_MO_heads_192 225 (by decide) (fun q2 => ?_) (fun q2 => ?_)
    · have hf := ite_t q2 hf
      exact g_vret X d_MO_heads_225 hr hk9 hf
    · have hf := ite_f q2 hf
      refine g_aload_n X d_MO_heads_195 0 rfl ?_
      refine g_dup X d_MO_heads_196 rfl ?_
      refine gf_112_23 X d_MO_heads_197 wl_MO_93 ?_
      refine g_aload_n X d_MO_heads_200 0 rfl ?_
      refine gf_112_7 X d_MO_heads_201 wl_MO_22 ?_
      refine g_iload_n X d_MO_heads_204 1 rfl ?_
      obtain ⟨b3, hf⟩ := gd_some hf
      refine g_iald X d_MO_heads_205 kd_117 b3 ?_
      refine g_iload_n X d_MO_heads_206 1 rfl ?_
      refine g_ic_ne X d_MO_heads_207 214 (by decide) (fun q4 => ?_) (fun q4 => ?_)
      · have hf := ite_f q4 hf
        refine g_iconst X d_MO_heads_214 (v := (nI 0)) rfl ?_
        exact w_MO_heads_215 X hr hk9 ih _ _ _ _ hf
      · have hf := ite_t q4 hf
        refine g_iconst X d_MO_heads_210 (v := (nI 1)) rfl ?_
        refine g_goto X d_MO_heads_211 215 (by decide) ?_
        exact w_MO_heads_215 X hr hk9 ih _ _ _ _ hf
set_option maxRecDepth 10000 in
theorem w_MO_heads_148 {K64 : Int32 → Int32 → Int32 → Sg → Option (Int32 × Sg)} {r : Int32} {σ' : Sg} (X : Cx Γ p (z_rm 3 65) s m args c c_MO_heads 5 "CaptionTalliesModel" 0 0) (hr : meth.sig.returnType = none) (hk9 : meth.locks = false) (hK64 : ∀ (x1 : Int32) (x2 : Int32) (x3 : Int32) (σ : Sg), K64 x1 x2 x3 σ = some (r, σ') → G Γ p l e (z_rm 3 65) s m args below meth c 0 0 (MQ below (Qx Γ none σ') args s 0 0 (fun q : Nat => Γ.2.2.2 ≤ q)) 5 64 [(0, .ref (Γ.2.2.1 112)), (1, .int x1), (2, .int x2), (3, .int x3)] [] σ)  (x2 : Int32) (x3 : Int32) (t0 : Int32) (σ : Sg) (hf : f_MO_heads_148 K64 x2 x3 t0 σ = some (r, σ')) : G Γ p l e (z_rm 3 65) s m args below meth c 0 0 (MQ below (Qx Γ none σ') args s 0 0 (fun q : Nat => Γ.2.2.2 ≤ q)) 5 148 [(0, .ref (Γ.2.2.1 112)), (2, .int x2), (3, .int x3)] [.int t0] σ := by
  rw [f_MO_heads_148] at hf
  refine g_istore X d_MO_heads_148 (lv' := [(4, .int t0), (0, .ref (Γ.2.2.1 112)), (2, .int x2), (3, .int x3)]) (Nat.le_of_ble_eq_true rfl) rfl ?_
  refine g_aload_n X d_MO_heads_150 1 rfl ?_
  refine gf_112_7 X d_MO_heads_151 wl_MO_22 ?_
  refine g_iload_n X d_MO_heads_154 2 rfl ?_
  refine g_iload X d_MO_heads_155 0 rfl ?_
  obtain ⟨b1, hf⟩ := gd_some hf
  obtain ⟨σ2, eσ2, hf⟩ := lt_ex hf
  refine g_iast X d_MO_heads_157 kd_117 b1 eσ2 ?_
  refine g_aload_n X d_MO_heads_158 1 rfl ?_
  refine gf_112_7 X d_MO_heads_159 wl_MO_22 ?_
  refine g_iload_n X d_MO_heads_162 3 rfl ?_
  refine g_iload X d_MO_heads_163 0 rfl ?_
  obtain ⟨b3, hf⟩ := gd_some hf
  obtain ⟨σ4, eσ4, hf⟩ := lt_ex hf
  refine g_iast X d_MO_heads_165 kd_117 b3 eσ4 ?_
  refine g_iconst X d_MO_heads_166 (v := (nI 1)) rfl ?_
  refine g_istore_n X d_MO_heads_167 rfl (lv' := [(1, .int (nI 1)), (4, .int t0), (0, .ref (Γ.2.2.1 112)), (2, .int x2), (3, .int x3)]) (Nat.le_of_ble_eq_true rfl) rfl ?_
  refine g_iinc X d_MO_heads_168 (j := 4) (lv' := [(3, .int (x3 + (nI 1))), (1, .int (nI 1)), (4, .int t0), (0, .ref (Γ.2.2.1 112)), (2, .int x2)]) rfl rfl (Nat.le_of_ble_eq_true rfl) rfl ?_
  refine g_goto X d_MO_heads_171 64 (by decide) ?_
  refine g_sub [3, 1, 4, 0] rfl ?_
  exact hK64 _ _ _ _ hf
set_option maxRecDepth 10000 in
theorem w_MO_heads_118 {K64 : Int32 → Int32 → Int32 → Sg → Option (Int32 × Sg)} {r : Int32} {σ' : Sg} (X : Cx Γ p (z_rm 3 65) s m args c c_MO_heads 5 "CaptionTalliesModel" 0 0) (hr : meth.sig.returnType = none) (hk9 : meth.locks = false) (hK64 : ∀ (x1 : Int32) (x2 : Int32) (x3 : Int32) (σ : Sg), K64 x1 x2 x3 σ = some (r, σ') → G Γ p l e (z_rm 3 65) s m args below meth c 0 0 (MQ below (Qx Γ none σ') args s 0 0 (fun q : Nat => Γ.2.2.2 ≤ q)) 5 64 [(0, .ref (Γ.2.2.1 112)), (1, .int x1), (2, .int x2), (3, .int x3)] [] σ)  (x2 : Int32) (x3 : Int32) (σ : Sg) (hf : f_MO_heads_118 K64 x2 x3 σ = some (r, σ')) : G Γ p l e (z_rm 3 65) s m args below meth c 0 0 (MQ below (Qx Γ none σ') args s 0 0 (fun q : Nat => Γ.2.2.2 ≤ q)) 5 118 [(0, .ref (Γ.2.2.1 112)), (2, .int x2), (3, .int x3)] [] σ := by
  rw [f_MO_heads_118] at hf
  refine g_aload_n X d_MO_heads_118 0 rfl ?_
  refine gf_112_7 X d_MO_heads_119 wl_MO_22 ?_
  refine g_iload_n X d_MO_heads_122 1 rfl ?_
  obtain ⟨b1, hf⟩ := gd_some hf
  refine g_iald X d_MO_heads_123 kd_117 b1 ?_
  refine g_aload_n X d_MO_heads_124 0 rfl ?_
  refine gf_112_7 X d_MO_heads_125 wl_MO_22 ?_
  refine g_iload_n X d_MO_heads_128 2 rfl ?_
  obtain ⟨b2, hf⟩ := gd_some hf
  refine g_iald X d_MO_heads_129 kd_117 b2 ?_
  refine g_ic_ge X d_MO_heads_130 142 (by decide) (fun q3 => ?_) (fun q3 => ?_)
  · have hf := ite_t q3 hf
    refine g_aload_n X d_MO_heads_142 0 rfl ?_
    refine gf_112_7 X d_MO_heads_143 wl_MO_22 ?_
    refine g_iload_n X d_MO_heads_146 2 rfl ?_
    obtain ⟨b4, hf⟩ := gd_some hf
    refine g_iald X d_MO_heads_147 kd_117 b4 ?_
    exact w_MO_heads_148 X hr hk9 hK64 _ _ _ _ hf
  · have hf := ite_f q3 hf
    refine g_aload_n X d_MO_heads_133 0 rfl ?_
    refine gf_112_7 X d_MO_heads_134 wl_MO_22 ?_
    refine g_iload_n X d_MO_heads_137 1 rfl ?_
    obtain ⟨b5, hf⟩ := gd_some hf
    refine g_iald X d_MO_heads_138 kd_117 b5 ?_
    refine g_goto X d_MO_heads_139 148 (by decide) ?_
    exact w_MO_heads_148 X hr hk9 hK64 _ _ _ _ hf
set_option maxRecDepth 10000 in
theorem w_MO_heads_64 {K52 : Int32 → Int32 → Sg → Option (Int32 × Sg)} {r : Int32} {σ' : Sg} (X : Cx Γ p (z_rm 3 65) s m args c c_MO_heads 5 "CaptionTalliesModel" 0 0) (hr : meth.sig.returnType = none) (hk9 : meth.locks = false) (hK52 : ∀ (x1 : Int32) (x2 : Int32) (σ : Sg), K52 x1 x2 σ = some (r, σ') → G Γ p l e (z_rm 3 65) s m args below meth c 0 0 (MQ below (Qx Γ none σ') args s 0 0 (fun q : Nat => Γ.2.2.2 ≤ q)) 5 52 [(0, .ref (Γ.2.2.1 112)), (1, .int x1), (2, .int x2)] [] σ) : ∀ (n9 : Nat) (x1 : Int32) (x2 : Int32) (x3 : Int32) (σ : Sg), f_MO_heads_64 K52 n9 x1 x2 x3 σ = some (r, σ') → G Γ p l e (z_rm 3 65) s m args below meth c 0 0 (MQ below (Qx Γ none σ') args s 0 0 (fun q : Nat => Γ.2.2.2 ≤ q)) 5 64 [(0, .ref (Γ.2.2.1 112)), (1, .int x1), (2, .int x2), (3, .int x3)] [] σ := by
  intro n9
  induction n9 with
  | zero => intro x1 x2 x3 σ hf; cases hf
  | succ n9 ih =>
    intro x1 x2 x3 σ hf
    rw [f_MO_heads_64] at hf
    refine g_iload_n X d_MO_heads_64 3 rfl ?_
    refine g_iload_n X d_MO_heads_65 2 rfl ?_
    refine g_ic_ge X d_MO_heads_66 174 (by decide) (fun q1 => ?_) (fun q1 => ?_)
    · have hf := ite_t q1 hf
      refine g_iinc X d_MO_heads_174 (j := 2) (lv' := [(2, .int (x2 + (nI 1))), (0, .ref (Γ.2.2.1 112)), (1, .int x1), (3, .int x3)]) rfl rfl (Nat.le_of_ble_eq_true rfl) rfl ?_
      refine g_goto X d_MO_heads_177 52 (by decide) ?_
      refine g_sub [1, 2, 0] rfl ?_
      exact hK52 _ _ _ hf
    · have hf := ite_f q1 hf
      refine g_aload_n X d_MO_heads_69 0 rfl ?_
      refine g_iload_n X d_MO_heads_70 2 rfl ?_
      obtain ⟨r2, σ3, er2, hf⟩ := bd_some hf
      refine ca_MO_is X d_MO_heads_71 wl_MO_96 ⟨Nat.le_of_ble_eq_true rfl, Nat.le_of_ble_eq_true rfl⟩ (sum8 rfl) er2 ?_
      refine g_if_eq X d_MO_heads_74 168 (by decide) (fun q4 => ?_) (fun q4 => ?_)
      · have hf := ite_t q4 hf
        refine g_iinc X d_MO_heads_168 (j := 3) (lv' := [(3, .int (x3 + (nI 1))), (0, .ref (Γ.2.2.1 112)), (1, .int x1), (2, .int x2)]) rfl rfl (Nat.le_of_ble_eq_true rfl) rfl ?_
        refine g_goto X d_MO_heads_171 64 (by decide) ?_
        refine g_sub [1, 2, 3, 0] rfl ?_
        exact ih _ _ _ _ hf
      · have hf := ite_f q4 hf
        refine g_aload_n X d_MO_heads_77 0 rfl ?_
        refine g_iload_n X d_MO_heads_78 3 rfl ?_
        obtain ⟨r5, σ6, er5, hf⟩ := bd_some hf
        refine ca_MO_is X d_MO_heads_79 wl_MO_96 ⟨Nat.le_of_ble_eq_true rfl, Nat.le_of_ble_eq_true rfl⟩ (sum8 rfl) er5 ?_
        refine g_if_eq X d_MO_heads_82 168 (by decide) (fun q7 => ?_) (fun q7 => ?_)
        · have hf := ite_t q7 hf
          refine g_iinc X d_MO_heads_168 (j := 3) (lv' := [(3, .int (x3 + (nI 1))), (0, .ref (Γ.2.2.1 112)), (1, .int x1), (2, .int x2)]) rfl rfl (Nat.le_of_ble_eq_true rfl) rfl ?_
          refine g_goto X d_MO_heads_171 64 (by decide) ?_
          refine g_sub [1, 2, 3, 0] rfl ?_
          exact ih _ _ _ _ hf
        · have hf := ite_f q7 hf
          refine g_aload_n X d_MO_heads_85 0 rfl ?_
          refine gf_112_7 X d_MO_heads_86 wl_MO_22 ?_
          refine g_iload_n X d_MO_heads_89 2 rfl ?_
          obtain ⟨b8, hf⟩ := gd_some hf
          refine g_iald X d_MO_heads_90 kd_117 b8 ?_
          refine g_aload_n X d_MO_heads_91 0 rfl ?_
          refine gf_112_7 X d_MO_heads_92 wl_MO_22 ?_
          refine g_iload_n X d_MO_heads_95 3 rfl ?_
          obtain ⟨b9, hf⟩ := gd_some hf
          refine g_iald X d_MO_heads_96 kd_117 b9 ?_
          refine g_ic_eq X d_MO_heads_97 168 (by decide) (fun q10 => ?_) (fun q10 => ?_)
          · have hf := ite_t q10 hf
            refine g_iinc X d_MO_heads_168 (j := 3) (lv' := [(3, .int (x3 + (nI 1))), (0, .ref (Γ.2.2.1 112)), (1, .int x1), (2, .int x2)]) rfl rfl (Nat.le_of_ble_eq_true rfl) rfl ?_
            refine g_goto X d_MO_heads_171 64 (by decide) ?_
            refine g_sub [1, 2, 3, 0] rfl ?_
            exact ih _ _ _ _ hf
          · have hf := ite_f q10 hf
            refine g_aload_n X d_MO_heads_100 0 rfl ?_
            refine g_iload_n X d_MO_heads_101 2 rfl ?_
            refine g_iload_n X d_MO_heads_102 3 rfl ?_
            obtain ⟨r11, σ12, er11, hf⟩ := bd_some hf
            refine ca_MO_isLinked X d_MO_heads_103 wl_MO_99 ⟨Nat.le_of_ble_eq_true rfl, Nat.le_of_ble_eq_true rfl⟩ (sum8 rfl) er11 ?_
            refine g_if_ne X d_MO_heads_106 118 (by decide) (fun q13 => ?_) (fun q13 => ?_)
            · have hf := ite_f q13 hf
              refine g_sub [0, 2, 3] rfl ?_
              exact w_MO_heads_118 X hr hk9 ih _ _ _ hf
            · have hf := ite_t q13 hf
              refine g_aload_n X d_MO_heads_109 0 rfl ?_
              refine g_iload_n X d_MO_heads_110 2 rfl ?_
              refine g_iload_n X d_MO_heads_111 3 rfl ?_
              obtain ⟨r14, σ15, er14, hf⟩ := bd_some hf
              refine ca_MO_isAlike X d_MO_heads_112 wl_MO_103 ⟨Nat.le_of_ble_eq_true rfl, Nat.le_of_ble_eq_true rfl⟩ (sum8 rfl) er14 ?_
              refine g_if_eq X d_MO_heads_115 168 (by decide) (fun q16 => ?_) (fun q16 => ?_)
              · have hf := ite_t q16 hf
                refine g_iinc X d_MO_heads_168 (j := 3) (lv' := [(3, .int (x3 + (nI 1))), (0, .ref (Γ.2.2.1 112)), (1, .int x1), (2, .int x2)]) rfl rfl (Nat.le_of_ble_eq_true rfl) rfl ?_
                refine g_goto X d_MO_heads_171 64 (by decide) ?_
                refine g_sub [1, 2, 3, 0] rfl ?_
                exact ih _ _ _ _ hf
              · have hf := ite_f q16 hf
                refine g_sub [0, 2, 3] rfl ?_
                exact w_MO_heads_118 X hr hk9 ih _ _ _ hf
set_option maxRecDepth 10000 in
theorem w_MO_heads_52 {K44 : Int32 → Sg → Option (Int32 × Sg)} {r : Int32} {σ' : Sg} (X : Cx Γ p (z_rm 3 65) s m args c c_MO_heads 5 "CaptionTalliesModel" 0 0) (hr : meth.sig.returnType = none) (hk9 : meth.locks = false) (hK44 : ∀ (x1 : Int32) (σ : Sg), K44 x1 σ = some (r, σ') → G Γ p l e (z_rm 3 65) s m args below meth c 0 0 (MQ below (Qx Γ none σ') args s 0 0 (fun q : Nat => Γ.2.2.2 ≤ q)) 5 44 [(0, .ref (Γ.2.2.1 112)), (1, .int x1)] [] σ) : ∀ (n9 : Nat) (x1 : Int32) (x2 : Int32) (σ : Sg), f_MO_heads_52 K44 n9 x1 x2 σ = some (r, σ') → G Γ p l e (z_rm 3 65) s m args below meth c 0 0 (MQ below (Qx Γ none σ') args s 0 0 (fun q : Nat => Γ.2.2.2 ≤ q)) 5 52 [(0, .ref (Γ.2.2.1 112)), (1, .int x1), (2, .int x2)] [] σ := by
  intro n9
  induction n9 with
  | zero => intro x1 x2 σ hf; cases hf
  | succ n9 ih =>
    intro x1 x2 σ hf
    rw [f_MO_heads_52] at hf
    refine g_iload_n X d_MO_heads_52 2 rfl ?_
    refine g_aload_n X d_MO_heads_53 0 rfl ?_
    refine gf_112_0 X d_MO_heads_54 wl_MO_7 ?_
    refine g_iconst X d_MO_heads_57 (v := (nI 0)) rfl ?_
    obtain ⟨b1, hf⟩ := gd_some hf
    refine g_iald X d_MO_heads_58 kd_113 b1 ?_
    refine g_ic_ge X d_MO_heads_59 180 (by decide) (fun q2 => ?_) (fun q2 => ?_)
    · have hf := ite_t q2 hf
      refine g_goto X d_MO_heads_180 44 (by decide) ?_
      refine g_sub [0, 1] rfl ?_
      exact hK44 _ _ hf
    · have hf := ite_f q2 hf
      refine g_iconst X d_MO_heads_62 (v := (nI 0)) rfl ?_
      refine g_istore_n X d_MO_heads_63 rfl (lv' := [(3, .int (nI 0)), (0, .ref (Γ.2.2.1 112)), (1, .int x1), (2, .int x2)]) (Nat.le_of_ble_eq_true rfl) rfl ?_
      refine g_sub [1, 2, 3, 0] rfl ?_
      exact w_MO_heads_64 X hr hk9 ih _ _ _ _ _ hf
set_option maxRecDepth 10000 in
theorem w_MO_heads_44 {r : Int32} {σ' : Sg} (X : Cx Γ p (z_rm 3 65) s m args c c_MO_heads 5 "CaptionTalliesModel" 0 0) (hr : meth.sig.returnType = none) (hk9 : meth.locks = false) : ∀ (n9 : Nat) (x1 : Int32) (σ : Sg), f_MO_heads_44 n9 x1 σ = some (r, σ') → G Γ p l e (z_rm 3 65) s m args below meth c 0 0 (MQ below (Qx Γ none σ') args s 0 0 (fun q : Nat => Γ.2.2.2 ≤ q)) 5 44 [(0, .ref (Γ.2.2.1 112)), (1, .int x1)] [] σ := by
  intro n9
  induction n9 with
  | zero => intro x1 σ hf; cases hf
  | succ n9 ih =>
    intro x1 σ hf
    rw [f_MO_heads_44] at hf
    refine g_iload_n X d_MO_heads_44 1 rfl ?_
    refine g_if_eq X d_MO_heads_45 183 (by decide) (fun q1 => ?_) (fun q1 => ?_)
    · have hf := ite_t q1 hf
      refine g_iconst X d_MO_heads_183 (v := (nI 0)) rfl ?_
      refine g_istore_n X d_MO_heads_184 rfl (lv' := [(2, .int (nI 0)), (0, .ref (Γ.2.2.1 112)), (1, .int x1)]) (Nat.le_of_ble_eq_true rfl) rfl ?_
      refine g_sub [1, 0] rfl ?_
      exact w_MO_heads_185 X hr hk9 _ _ _ hf
    · have hf := ite_f q1 hf
      refine g_iconst X d_MO_heads_48 (v := (nI 0)) rfl ?_
      refine g_istore_n X d_MO_heads_49 rfl (lv' := [(1, .int (nI 0)), (0, .ref (Γ.2.2.1 112))]) (Nat.le_of_ble_eq_true rfl) rfl ?_
      refine g_iconst X d_MO_heads_50 (v := (nI 0)) rfl ?_
      refine g_istore_n X d_MO_heads_51 rfl (lv' := [(2, .int (nI 0)), (1, .int (nI 0)), (0, .ref (Γ.2.2.1 112))]) (Nat.le_of_ble_eq_true rfl) rfl ?_
      refine g_sub [2, 1, 0] rfl ?_
      exact w_MO_heads_52 X hr hk9 ih _ _ _ _ hf
set_option maxRecDepth 10000 in
theorem w_MO_heads_35 {K11 : Int32 → Sg → Option (Int32 × Sg)} {r : Int32} {σ' : Sg} (X : Cx Γ p (z_rm 3 65) s m args c c_MO_heads 5 "CaptionTalliesModel" 0 0) (hr : meth.sig.returnType = none) (hk9 : meth.locks = false) (hK11 : ∀ (x1 : Int32) (σ : Sg), K11 x1 σ = some (r, σ') → G Γ p l e (z_rm 3 65) s m args below meth c 0 0 (MQ below (Qx Γ none σ') args s 0 0 (fun q : Nat => Γ.2.2.2 ≤ q)) 5 11 [(0, .ref (Γ.2.2.1 112)), (1, .int x1)] [] σ)  (x1 : Int32) (t0 : Int32) (t1 : Int32) (σ : Sg) (hf : f_MO_heads_35 K11 x1 t0 t1 σ = some (r, σ')) : G Γ p l e (z_rm 3 65) s m args below meth c 0 0 (MQ below (Qx Γ none σ') args s 0 0 (fun q : Nat => Γ.2.2.2 ≤ q)) 5 35 [(0, .ref (Γ.2.2.1 112)), (1, .int x1)] [.int t0, .int t1, .ref (Γ.2.2.1 117)] σ := by
  rw [f_MO_heads_35] at hf
  obtain ⟨b1, hf⟩ := gd_some hf
  obtain ⟨σ2, eσ2, hf⟩ := lt_ex hf
  refine g_iast X d_MO_heads_35 kd_117 b1 eσ2 ?_
  refine g_iinc X d_MO_heads_36 (j := 1) (lv' := [(1, .int (x1 + (nI 1))), (0, .ref (Γ.2.2.1 112))]) rfl rfl (Nat.le_of_ble_eq_true rfl) rfl ?_
  refine g_goto X d_MO_heads_39 11 (by decide) ?_
  refine g_sub [1, 0] rfl ?_
  exact hK11 _ _ hf
set_option maxRecDepth 10000 in
theorem w_MO_heads_11 {r : Int32} {σ' : Sg} (X : Cx Γ p (z_rm 3 65) s m args c c_MO_heads 5 "CaptionTalliesModel" 0 0) (hr : meth.sig.returnType = none) (hk9 : meth.locks = false) : ∀ (n9 : Nat) (x1 : Int32) (σ : Sg), f_MO_heads_11 n9 x1 σ = some (r, σ') → G Γ p l e (z_rm 3 65) s m args below meth c 0 0 (MQ below (Qx Γ none σ') args s 0 0 (fun q : Nat => Γ.2.2.2 ≤ q)) 5 11 [(0, .ref (Γ.2.2.1 112)), (1, .int x1)] [] σ := by
  intro n9
  induction n9 with
  | zero => intro x1 σ hf; cases hf
  | succ n9 ih =>
    intro x1 σ hf
    rw [f_MO_heads_11] at hf
    refine g_iload_n X d_MO_heads_11 1 rfl ?_
    refine g_bipush X d_MO_heads_12 (v := (nI 20)) rfl ?_
    refine g_ic_ge X d_MO_heads_14 42 (by decide) (fun q1 => ?_) (fun q1 => ?_)
    · have hf := ite_t q1 hf
      refine g_iconst X d_MO_heads_42 (v := (nI 1)) rfl ?_
      refine g_istore_n X d_MO_heads_43 rfl (lv' := [(1, .int (nI 1)), (0, .ref (Γ.2.2.1 112))]) (Nat.le_of_ble_eq_true rfl) rfl ?_
      refine g_sub [1, 0] rfl ?_
      exact w_MO_heads_44 X hr hk9 _ _ _ hf
    · have hf := ite_f q1 hf
      refine g_aload_n X d_MO_heads_17 0 rfl ?_
      refine gf_112_7 X d_MO_heads_18 wl_MO_22 ?_
      refine g_iload_n X d_MO_heads_21 1 rfl ?_
      refine g_aload_n X d_MO_heads_22 0 rfl ?_
      refine g_iload_n X d_MO_heads_23 1 rfl ?_
      obtain ⟨r2, σ3, er2, hf⟩ := bd_some hf
      refine ca_MO_is X d_MO_heads_24 wl_MO_96 ⟨Nat.le_of_ble_eq_true rfl, Nat.le_of_ble_eq_true rfl⟩ (sum8 rfl) er2 ?_
      refine g_if_eq X d_MO_heads_27 34 (by decide) (fun q4 => ?_) (fun q4 => ?_)
      · have hf := ite_t q4 hf
        refine g_iconst X d_MO_heads_34 (v := (-1)) rfl ?_
        exact w_MO_heads_35 X hr hk9 ih _ _ _ _ hf
      · have hf := ite_f q4 hf
        refine g_iload_n X d_MO_heads_30 1 rfl ?_
        refine g_goto X d_MO_heads_31 35 (by decide) ?_
        exact w_MO_heads_35 X hr hk9 ih _ _ _ _ hf
set_option maxRecDepth 10000 in
theorem c_MO_heads' {Γ : Gm} {l : Launch} {σ σ' : Sg} {r : Int32} (hf : f_MO_heads σ = some (r, σ')) : Ctr Γ l y_MO_heads c_MO_heads 5 none 3 65 [.ref (Γ.2.2.1 112)] σ σ' none := by
  refine Ctr.of (lv := [(0, .ref (Γ.2.2.1 112))]) (by decide +kernel) (Nat.le_of_ble_eq_true rfl) rfl ?_
  intro p e s m args below meth c X hr hk9
  have X : Cx Γ p (z_rm 3 65) s m args c c_MO_heads 5 "CaptionTalliesModel" 0 0 := X
  rw [f_MO_heads] at hf
  refine g_aload_n X d_MO_heads_0 0 rfl ?_
  obtain ⟨r1, σ2, er1, hf⟩ := bd_some hf
  refine ca_MO_takesCores X d_MO_heads_1 wl_MO_90 ⟨Nat.le_of_ble_eq_true rfl, Nat.le_of_ble_eq_true rfl⟩ (sum8 rfl) er1 ?_
  refine g_aload_n X d_MO_heads_4 0 rfl ?_
  refine g_iconst X d_MO_heads_5 (v := (nI 0)) rfl ?_
  obtain ⟨σ3, eσ3, hf⟩ := lt_ex hf
  refine gp_112_23 X d_MO_heads_6 wl_MO_93 eσ3 ?_
  refine g_iconst X d_MO_heads_9 (v := (nI 0)) rfl ?_
  refine g_istore_n X d_MO_heads_10 rfl (lv' := [(1, .int (nI 0)), (0, .ref (Γ.2.2.1 112))]) (Nat.le_of_ble_eq_true rfl) rfl ?_
  refine g_sub [1, 0] rfl ?_
  exact w_MO_heads_11 X hr hk9 _ _ _ hf
section
variable {R : Room} {kc ks : Nat} {Q : State → Prop} {nL : Nat} {cc : ByteArray} {own : String} {pc : Nat} {lv lv' : List (Nat × Value)} {st : List Value}
theorem ca_MO_heads (X : Cx Γ p R s m args c cc nL own kc ks) {idx : Nat} (hd : decode cc pc = .ok (.invokevirtual idx, 3)) (hlk : Cond.methodLink own idx y_MO_heads ∈ lw_gt) (hR : 3 + 1 ≤ R.frames ∧ 8 + (5 + 11) + 65 ≤ R.locals) (hw : (st.map fun v => v.category).sum ≤ 8) {σ σ' : Sg} {r : Int32} (hf : f_MO_heads σ = some (r, σ')) (k : G Γ p l e R s m args below meth c kc ks Q nL (pc + 3) lv (st) σ') : G Γ p l e R s m args below meth c kc ks Q nL pc lv (.ref (Γ.2.2.1 112) :: st) σ :=
  g_callV (As := []) (rest := st) X hd (c_MO_heads' hf) co_MO_heads hlk wn_MO_heads wse_MO_heads (by decide) kd_112 rfl hR rfl rfl hw k
end
set_option maxRecDepth 10000 in
theorem c_MO_isHead' {Γ : Gm} {l : Launch} {x1 : Int32} {σ σ' : Sg} {r : Int32} (hf : f_MO_isHead x1 σ = some (r, σ')) : Ctr Γ l y_MO_isHead c_MO_isHead 2 (some .boolean) 0 0 [.ref (Γ.2.2.1 112), .int x1] σ σ' (some (.int r)) := by
  refine Ctr.of (lv := [(0, .ref (Γ.2.2.1 112)), (1, .int x1)]) (by decide +kernel) (Nat.le_of_ble_eq_true rfl) rfl ?_
  intro p e s m args below meth c X hr hk9
  have X : Cx Γ p (z_rm 0 0) s m args c c_MO_isHead 2 "CaptionTalliesModel" 0 0 := X
  rw [f_MO_isHead] at hf
  refine g_iload_n X d_MO_isHead_0 1 rfl ?_
  refine g_if_lt X d_MO_isHead_1 18 (by decide) (fun q1 => ?_) (fun q1 => ?_)
  · have hf := ite_t q1 hf
    refine g_iconst X d_MO_isHead_18 (v := (nI 0)) rfl ?_
    exact g_zret X d_MO_isHead_19 hr hk9 rfl hf
  · have hf := ite_f q1 hf
    refine g_aload_n X d_MO_isHead_4 0 rfl ?_
    refine gf_112_7 X d_MO_isHead_5 wl_MO_22 ?_
    refine g_iload_n X d_MO_isHead_8 1 rfl ?_
    obtain ⟨b2, hf⟩ := gd_some hf
    refine g_iald X d_MO_isHead_9 kd_117 b2 ?_
    refine g_iload_n X d_MO_isHead_10 1 rfl ?_
    refine g_ic_ne X d_MO_isHead_11 18 (by decide) (fun q3 => ?_) (fun q3 => ?_)
    · have hf := ite_f q3 hf
      refine g_iconst X d_MO_isHead_18 (v := (nI 0)) rfl ?_
      exact g_zret X d_MO_isHead_19 hr hk9 rfl hf
    · have hf := ite_t q3 hf
      refine g_iconst X d_MO_isHead_14 (v := (nI 1)) rfl ?_
      refine g_goto X d_MO_isHead_15 19 (by decide) ?_
      exact g_zret X d_MO_isHead_19 hr hk9 rfl hf
section
variable {R : Room} {kc ks : Nat} {Q : State → Prop} {nL : Nat} {cc : ByteArray} {own : String} {pc : Nat} {lv lv' : List (Nat × Value)} {st : List Value}
theorem ca_MO_isHead {x1 : Int32} (X : Cx Γ p R s m args c cc nL own kc ks) {idx : Nat} (hd : decode cc pc = .ok (.invokevirtual idx, 3)) (hlk : Cond.methodLink own idx y_MO_isHead ∈ lw_gt) (hR : 0 + 1 ≤ R.frames ∧ 8 + (2 + 11) + 0 ≤ R.locals) (hw : (st.map fun v => v.category).sum ≤ 8) {σ σ' : Sg} {r : Int32} (hf : f_MO_isHead x1 σ = some (r, σ')) (k : G Γ p l e R s m args below meth c kc ks Q nL (pc + 3) lv (.int r :: st) σ') : G Γ p l e R s m args below meth c kc ks Q nL pc lv (.int x1 :: .ref (Γ.2.2.1 112) :: st) σ :=
  g_callV (As := [.int x1]) (rest := st) X hd (c_MO_isHead' hf) co_MO_isHead hlk wn_MO_isHead wse_MO_isHead (by decide) kd_112 rfl hR rfl rfl hw k
end
end ZM2
