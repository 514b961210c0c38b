section ZM0
variable {Γ : Gm} {p : Program} {l : Launch} {e : Env} {s : State} {m : MethodId} {args : Array Value} {below : List Frame} {meth : Method} {c : Code}
set_option maxRecDepth 10000 in
theorem c_CT_isIndex' {Γ : Gm} {l : Launch} {x0 : Int32} {x1 : Int32} {σ σ' : Sg} {r : Int32} (hf : f_CT_isIndex x0 x1 σ = some (r, σ')) : Ctr Γ l y_CT_isIndex c_CT_isIndex 2 (some .boolean) 0 0 [.int x0, .int x1] σ σ' (some (.int r)) := by
  refine Ctr.of (lv := [(0, .int x0), (1, .int x1)]) (by decide +kernel) (Nat.le_of_ble_eq_true rfl) rfl ?_
  intro p e s m args below meth c X hr hk9
  have X : Cx Γ p (z_rm 0 0) s m args c c_CT_isIndex 2 "CaptionTallies" 0 0 := X
  rw [f_CT_isIndex] at hf
  refine g_iload_n X d_CT_isIndex_0 0 rfl ?_
  refine g_if_lt X d_CT_isIndex_1 13 (by decide) (fun q1 => ?_) (fun q1 => ?_)
  · have hf := ite_t q1 hf
    refine g_iconst X d_CT_isIndex_13 (v := (nI 0)) rfl ?_
    exact g_zret X d_CT_isIndex_14 hr hk9 rfl hf
  · have hf := ite_f q1 hf
    refine g_iload_n X d_CT_isIndex_4 0 rfl ?_
    refine g_iload_n X d_CT_isIndex_5 1 rfl ?_
    refine g_ic_ge X d_CT_isIndex_6 13 (by decide) (fun q2 => ?_) (fun q2 => ?_)
    · have hf := ite_t q2 hf
      refine g_iconst X d_CT_isIndex_13 (v := (nI 0)) rfl ?_
      exact g_zret X d_CT_isIndex_14 hr hk9 rfl hf
    · have hf := ite_f q2 hf
      refine g_iconst X d_CT_isIndex_9 (v := (nI 1)) rfl ?_
      refine g_goto X d_CT_isIndex_10 14 (by decide) ?_
      exact g_zret X d_CT_isIndex_14 hr hk9 rfl hf
section
variable {R : Room} {kc ks : Nat} {Q : State → Prop} {nL : Nat} {cc : ByteArray} {own : String} {pc : Nat} {lv lv' : List (Nat × Value)} {st : List Value}
theorem ca_CT_isIndex {x0 : Int32} {x1 : Int32} (X : Cx Γ p R s m args c cc nL own kc ks) {idx : Nat} (hd : decode cc pc = .ok (.invokestatic idx, 3)) (hlk : Cond.methodLink own idx y_CT_isIndex ∈ lw_gt) (hR : 0 + 1 ≤ R.frames ∧ 8 + (2 + 11) + 0 ≤ R.locals) (hw : (st.map fun v => v.category).sum ≤ 8) {σ σ' : Sg} {r : Int32} (hf : f_CT_isIndex x0 x1 σ = some (r, σ')) (k : G Γ p l e R s m args below meth c kc ks Q nL (pc + 3) lv (.int r :: st) σ') : G Γ p l e R s m args below meth c kc ks Q nL pc lv (.int x1 :: .int x0 :: st) σ :=
  g_callS (As := [.int x0, .int x1]) (rest := st) X hd (c_CT_isIndex' hf) co_CT_isIndex hlk wn_CT_isIndex hR rfl rfl hw k
theorem can_CT_isIndex {x0 : Int32} {x1 : Int32} (X : Cx Γ p R s m args c cc nL own kc ks) {idx : Nat} (hd : decode cc pc = .ok (.invokestatic idx, 3)) (hlk : (own, idx, y_CT_isIndex) ∈ z_nests) (hR : 0 + 1 ≤ R.frames ∧ 8 + (2 + 11) + 0 ≤ R.locals) (hw : (st.map fun v => v.category).sum ≤ 8) {σ σ' : Sg} {r : Int32} (hf : f_CT_isIndex x0 x1 σ = some (r, σ')) (k : G Γ p l e R s m args below meth c kc ks Q nL (pc + 3) lv (.int r :: st) σ') : G Γ p l e R s m args below meth c kc ks Q nL pc lv (.int x1 :: .int x0 :: st) σ :=
  g_callSN (As := [.int x0, .int x1]) (rest := st) X hd (c_CT_isIndex' hf) co_CT_isIndex hlk wn_CT_isIndex hR rfl rfl hw k
end
set_option maxRecDepth 10000 in
theorem c_CT_isGreat' {Γ : Gm} {l : Launch} {x0 : Int32} {σ σ' : Sg} {r : Int32} (hf : f_CT_isGreat x0 σ = some (r, σ')) : Ctr Γ l y_CT_isGreat c_CT_isGreat 1 (some .boolean) 0 0 [.int x0] σ σ' (some (.int r)) := by
  refine Ctr.of (lv := [(0, .int x0)]) (by decide +kernel) (Nat.le_of_ble_eq_true rfl) rfl ?_
  intro p e s m args below meth c X hr hk9
  have X : Cx Γ p (z_rm 0 0) s m args c c_CT_isGreat 1 "CaptionTallies" 0 0 := X
  rw [f_CT_isGreat] at hf
  refine g_iload_n X d_CT_isGreat_0 0 rfl ?_
  refine g_bipush X d_CT_isGreat_1 (v := (nI 65)) rfl ?_
  refine g_ic_lt X d_CT_isGreat_3 16 (by decide) (fun q1 => ?_) (fun q1 => ?_)
  · have hf := ite_t q1 hf
    refine g_iconst X d_CT_isGreat_16 (v := (nI 0)) rfl ?_
    exact g_zret X d_CT_isGreat_17 hr hk9 rfl hf
  · have hf := ite_f q1 hf
    refine g_iload_n X d_CT_isGreat_6 0 rfl ?_
    refine g_bipush X d_CT_isGreat_7 (v := (nI 90)) rfl ?_
    refine g_ic_gt X d_CT_isGreat_9 16 (by decide) (fun q2 => ?_) (fun q2 => ?_)
    · have hf := ite_t q2 hf
      refine g_iconst X d_CT_isGreat_16 (v := (nI 0)) rfl ?_
      exact g_zret X d_CT_isGreat_17 hr hk9 rfl hf
    · have hf := ite_f q2 hf
      refine g_iconst X d_CT_isGreat_12 (v := (nI 1)) rfl ?_
      refine g_goto X d_CT_isGreat_13 17 (by decide) ?_
      exact g_zret X d_CT_isGreat_17 hr hk9 rfl hf
section
variable {R : Room} {kc ks : Nat} {Q : State → Prop} {nL : Nat} {cc : ByteArray} {own : String} {pc : Nat} {lv lv' : List (Nat × Value)} {st : List Value}
theorem ca_CT_isGreat {x0 : Int32} (X : Cx Γ p R s m args c cc nL own kc ks) {idx : Nat} (hd : decode cc pc = .ok (.invokestatic idx, 3)) (hlk : Cond.methodLink own idx y_CT_isGreat ∈ lw_gt) (hR : 0 + 1 ≤ R.frames ∧ 8 + (1 + 11) + 0 ≤ R.locals) (hw : (st.map fun v => v.category).sum ≤ 8) {σ σ' : Sg} {r : Int32} (hf : f_CT_isGreat x0 σ = some (r, σ')) (k : G Γ p l e R s m args below meth c kc ks Q nL (pc + 3) lv (.int r :: st) σ') : G Γ p l e R s m args below meth c kc ks Q nL pc lv (.int x0 :: st) σ :=
  g_callS (As := [.int x0]) (rest := st) X hd (c_CT_isGreat' hf) co_CT_isGreat hlk wn_CT_isGreat hR rfl rfl hw k
theorem can_CT_isGreat {x0 : Int32} (X : Cx Γ p R s m args c cc nL own kc ks) {idx : Nat} (hd : decode cc pc = .ok (.invokestatic idx, 3)) (hlk : (own, idx, y_CT_isGreat) ∈ z_nests) (hR : 0 + 1 ≤ R.frames ∧ 8 + (1 + 11) + 0 ≤ R.locals) (hw : (st.map fun v => v.category).sum ≤ 8) {σ σ' : Sg} {r : Int32} (hf : f_CT_isGreat x0 σ = some (r, σ')) (k : G Γ p l e R s m args below meth c kc ks Q nL (pc + 3) lv (.int r :: st) σ') : G Γ p l e R s m args below meth c kc ks Q nL pc lv (.int x0 :: st) σ :=
  g_callSN (As := [.int x0]) (rest := st) X hd (c_CT_isGreat' hf) co_CT_isGreat hlk wn_CT_isGreat hR rfl rfl hw k
end
set_option maxRecDepth 10000 in
theorem c_CT_isSmall' {Γ : Gm} {l : Launch} {x0 : Int32} {σ σ' : Sg} {r : Int32} (hf : f_CT_isSmall x0 σ = some (r, σ')) : Ctr Γ l y_CT_isSmall c_CT_isSmall 1 (some .boolean) 0 0 [.int x0] σ σ' (some (.int r)) := by
  refine Ctr.of (lv := [(0, .int x0)]) (by decide +kernel) (Nat.le_of_ble_eq_true rfl) rfl ?_
  intro p e s m args below meth c X hr hk9
  have X : Cx Γ p (z_rm 0 0) s m args c c_CT_isSmall 1 "CaptionTallies" 0 0 := X
  rw [f_CT_isSmall] at hf
  refine g_iload_n X d_CT_isSmall_0 0 rfl ?_
  refine g_bipush X d_CT_isSmall_1 (v := (nI 97)) rfl ?_
  refine g_ic_lt X d_CT_isSmall_3 16 (by decide) (fun q1 => ?_) (fun q1 => ?_)
  · have hf := ite_t q1 hf
    refine g_iconst X d_CT_isSmall_16 (v := (nI 0)) rfl ?_
    exact g_zret X d_CT_isSmall_17 hr hk9 rfl hf
  · have hf := ite_f q1 hf
    refine g_iload_n X d_CT_isSmall_6 0 rfl ?_
    refine g_bipush X d_CT_isSmall_7 (v := (nI 122)) rfl ?_
    refine g_ic_gt X d_CT_isSmall_9 16 (by decide) (fun q2 => ?_) (fun q2 => ?_)
    · have hf := ite_t q2 hf
      refine g_iconst X d_CT_isSmall_16 (v := (nI 0)) rfl ?_
      exact g_zret X d_CT_isSmall_17 hr hk9 rfl hf
    · have hf := ite_f q2 hf
      refine g_iconst X d_CT_isSmall_12 (v := (nI 1)) rfl ?_
      refine g_goto X d_CT_isSmall_13 17 (by decide) ?_
      exact g_zret X d_CT_isSmall_17 hr hk9 rfl hf
section
variable {R : Room} {kc ks : Nat} {Q : State → Prop} {nL : Nat} {cc : ByteArray} {own : String} {pc : Nat} {lv lv' : List (Nat × Value)} {st : List Value}
theorem ca_CT_isSmall {x0 : Int32} (X : Cx Γ p R s m args c cc nL own kc ks) {idx : Nat} (hd : decode cc pc = .ok (.invokestatic idx, 3)) (hlk : Cond.methodLink own idx y_CT_isSmall ∈ lw_gt) (hR : 0 + 1 ≤ R.frames ∧ 8 + (1 + 11) + 0 ≤ R.locals) (hw : (st.map fun v => v.category).sum ≤ 8) {σ σ' : Sg} {r : Int32} (hf : f_CT_isSmall x0 σ = some (r, σ')) (k : G Γ p l e R s m args below meth c kc ks Q nL (pc + 3) lv (.int r :: st) σ') : G Γ p l e R s m args below meth c kc ks Q nL pc lv (.int x0 :: st) σ :=
  g_callS (As := [.int x0]) (rest := st) X hd (c_CT_isSmall' hf) co_CT_isSmall hlk wn_CT_isSmall hR rfl rfl hw k
theorem can_CT_isSmall {x0 : Int32} (X : Cx Γ p R s m args c cc nL own kc ks) {idx : Nat} (hd : decode cc pc = .ok (.invokestatic idx, 3)) (hlk : (own, idx, y_CT_isSmall) ∈ z_nests) (hR : 0 + 1 ≤ R.frames ∧ 8 + (1 + 11) + 0 ≤ R.locals) (hw : (st.map fun v => v.category).sum ≤ 8) {σ σ' : Sg} {r : Int32} (hf : f_CT_isSmall x0 σ = some (r, σ')) (k : G Γ p l e R s m args below meth c kc ks Q nL (pc + 3) lv (.int r :: st) σ') : G Γ p l e R s m args below meth c kc ks Q nL pc lv (.int x0 :: st) σ :=
  g_callSN (As := [.int x0]) (rest := st) X hd (c_CT_isSmall' hf) co_CT_isSmall hlk wn_CT_isSmall hR rfl rfl hw k
end
set_option maxRecDepth 10000 in
theorem c_CT_isLetter' {Γ : Gm} {l : Launch} {x0 : Int32} {σ σ' : Sg} {r : Int32} (hf : f_CT_isLetter x0 σ = some (r, σ')) : Ctr Γ l y_CT_isLetter c_CT_isLetter 1 (some .boolean) 1 20 [.int x0] σ σ' (some (.int r)) := by
  refine Ctr.of (lv := [(0, .int x0)]) (by decide +kernel) (Nat.le_of_ble_eq_true rfl) rfl ?_
  intro p e s m args below meth c X hr hk9
  have X : Cx Γ p (z_rm 1 20) s m args c c_CT_isLetter 1 "CaptionTallies" 0 0 := X
  rw [f_CT_isLetter] at hf
  refine g_iload_n X d_CT_isLetter_0 0 rfl ?_
  obtain ⟨r1, σ2, er1, hf⟩ := bd_some hf
  refine ca_CT_isSmall X d_CT_isLetter_1 wl_CT_346 ⟨Nat.le_of_ble_eq_true rfl, Nat.le_of_ble_eq_true rfl⟩ (sum8 rfl) er1 ?_
  refine g_if_ne X d_CT_isLetter_4 14 (by decide) (fun q3 => ?_) (fun q3 => ?_)
  · have hf := ite_f q3 hf
    refine g_iconst X d_CT_isLetter_14 (v := (nI 1)) rfl ?_
    refine g_goto X d_CT_isLetter_15 19 (by decide) ?_
    exact g_zret X d_CT_isLetter_19 hr hk9 rfl hf
  · have hf := ite_t q3 hf
    refine g_iload_n X d_CT_isLetter_7 0 rfl ?_
    obtain ⟨r4, σ5, er4, hf⟩ := bd_some hf
    refine ca_CT_isGreat X d_CT_isLetter_8 wl_CT_349 ⟨Nat.le_of_ble_eq_true rfl, Nat.le_of_ble_eq_true rfl⟩ (sum8 rfl) er4 ?_
    refine g_if_eq X d_CT_isLetter_11 18 (by decide) (fun q6 => ?_) (fun q6 => ?_)
    · have hf := ite_t q6 hf
      refine g_iconst X d_CT_isLetter_18 (v := (nI 0)) rfl ?_
      exact g_zret X d_CT_isLetter_19 hr hk9 rfl hf
    · have hf := ite_f q6 hf
      refine g_iconst X d_CT_isLetter_14 (v := (nI 1)) rfl ?_
      refine g_goto X d_CT_isLetter_15 19 (by decide) ?_
      exact g_zret X d_CT_isLetter_19 hr hk9 rfl hf
section
variable {R : Room} {kc ks : Nat} {Q : State → Prop} {nL : Nat} {cc : ByteArray} {own : String} {pc : Nat} {lv lv' : List (Nat × Value)} {st : List Value}
theorem ca_CT_isLetter {x0 : Int32} (X : Cx Γ p R s m args c cc nL own kc ks) {idx : Nat} (hd : decode cc pc = .ok (.invokestatic idx, 3)) (hlk : Cond.methodLink own idx y_CT_isLetter ∈ lw_gt) (hR : 1 + 1 ≤ R.frames ∧ 8 + (1 + 11) + 20 ≤ R.locals) (hw : (st.map fun v => v.category).sum ≤ 8) {σ σ' : Sg} {r : Int32} (hf : f_CT_isLetter x0 σ = some (r, σ')) (k : G Γ p l e R s m args below meth c kc ks Q nL (pc + 3) lv (.int r :: st) σ') : G Γ p l e R s m args below meth c kc ks Q nL pc lv (.int x0 :: st) σ :=
  g_callS (As := [.int x0]) (rest := st) X hd (c_CT_isLetter' hf) co_CT_isLetter hlk wn_CT_isLetter hR rfl rfl hw k
theorem can_CT_isLetter {x0 : Int32} (X : Cx Γ p R s m args c cc nL own kc ks) {idx : Nat} (hd : decode cc pc = .ok (.invokestatic idx, 3)) (hlk : (own, idx, y_CT_isLetter) ∈ z_nests) (hR : 1 + 1 ≤ R.frames ∧ 8 + (1 + 11) + 20 ≤ R.locals) (hw : (st.map fun v => v.category).sum ≤ 8) {σ σ' : Sg} {r : Int32} (hf : f_CT_isLetter x0 σ = some (r, σ')) (k : G Γ p l e R s m args below meth c kc ks Q nL (pc + 3) lv (.int r :: st) σ') : G Γ p l e R s m args below meth c kc ks Q nL pc lv (.int x0 :: st) σ :=
  g_callSN (As := [.int x0]) (rest := st) X hd (c_CT_isLetter' hf) co_CT_isLetter hlk wn_CT_isLetter hR rfl rfl hw k
end
set_option maxRecDepth 10000 in
theorem c_CT_isSign' {Γ : Gm} {l : Launch} {x0 : Int32} {σ σ' : Sg} {r : Int32} (hf : f_CT_isSign x0 σ = some (r, σ')) : Ctr Γ l y_CT_isSign c_CT_isSign 1 (some .boolean) 0 0 [.int x0] σ σ' (some (.int r)) := by
  refine Ctr.of (lv := [(0, .int x0)]) (by decide +kernel) (Nat.le_of_ble_eq_true rfl) rfl ?_
  intro p e s m args below meth c X hr hk9
  have X : Cx Γ p (z_rm 0 0) s m args c c_CT_isSign 1 "CaptionTallies" 0 0 := X
  rw [f_CT_isSign] at hf
  refine g_iload_n X d_CT_isSign_0 0 rfl ?_
  refine g_bipush X d_CT_isSign_1 (v := (nI 32)) rfl ?_
  refine g_ic_eq X d_CT_isSign_3 42 (by decide) (fun q1 => ?_) (fun q1 => ?_)
  · have hf := ite_t q1 hf
    refine g_iconst X d_CT_isSign_42 (v := (nI 1)) rfl ?_
    refine g_goto X d_CT_isSign_43 47 (by decide) ?_
    exact g_zret X d_CT_isSign_47 hr hk9 rfl hf
  · have hf := ite_f q1 hf
    refine g_iload_n X d_CT_isSign_6 0 rfl ?_
    refine g_bipush X d_CT_isSign_7 (v := (nI 46)) rfl ?_
    refine g_ic_eq X d_CT_isSign_9 42 (by decide) (fun q2 => ?_) (fun q2 => ?_)
    · have hf := ite_t q2 hf
      refine g_iconst X d_CT_isSign_42 (v := (nI 1)) rfl ?_
      refine g_goto X d_CT_isSign_43 47 (by decide) ?_
      exact g_zret X d_CT_isSign_47 hr hk9 rfl hf
    · have hf := ite_f q2 hf
      refine g_iload_n X d_CT_isSign_12 0 rfl ?_
      refine g_bipush X d_CT_isSign_13 (v := (nI 44)) rfl ?_
      refine g_ic_eq X d_CT_isSign_15 42 (by decide) (fun q3 => ?_) (fun q3 => ?_)
      · have hf := ite_t q3 hf
        refine g_iconst X d_CT_isSign_42 (v := (nI 1)) rfl ?_
        refine g_goto X d_CT_isSign_43 47 (by decide) ?_
        exact g_zret X d_CT_isSign_47 hr hk9 rfl hf
      · have hf := ite_f q3 hf
        refine g_iload_n X d_CT_isSign_18 0 rfl ?_
        refine g_bipush X d_CT_isSign_19 (v := (nI 33)) rfl ?_
        refine g_ic_eq X d_CT_isSign_21 42 (by decide) (fun q4 => ?_) (fun q4 => ?_)
        · have hf := ite_t q4 hf
          refine g_iconst X d_CT_isSign_42 (v := (nI 1)) rfl ?_
          refine g_goto X d_CT_isSign_43 47 (by decide) ?_
          exact g_zret X d_CT_isSign_47 hr hk9 rfl hf
        · have hf := ite_f q4 hf
          refine g_iload_n X d_CT_isSign_24 0 rfl ?_
          refine g_bipush X d_CT_isSign_25 (v := (nI 63)) rfl ?_
          refine g_ic_eq X d_CT_isSign_27 42 (by decide) (fun q5 => ?_) (fun q5 => ?_)
          · have hf := ite_t q5 hf
            refine g_iconst X d_CT_isSign_42 (v := (nI 1)) rfl ?_
            refine g_goto X d_CT_isSign_43 47 (by decide) ?_
            exact g_zret X d_CT_isSign_47 hr hk9 rfl hf
          · have hf := ite_f q5 hf
            refine g_iload_n X d_CT_isSign_30 0 rfl ?_
            refine g_bipush X d_CT_isSign_31 (v := (nI 39)) rfl ?_
            refine g_ic_eq X d_CT_isSign_33 42 (by decide) (fun q6 => ?_) (fun q6 => ?_)
            · have hf := ite_t q6 hf
              refine g_iconst X d_CT_isSign_42 (v := (nI 1)) rfl ?_
              refine g_goto X d_CT_isSign_43 47 (by decide) ?_
              exact g_zret X d_CT_isSign_47 hr hk9 rfl hf
            · have hf := ite_f q6 hf
              refine g_iload_n X d_CT_isSign_36 0 rfl ?_
              refine g_bipush X d_CT_isSign_37 (v := (nI 45)) rfl ?_
              refine g_ic_ne X d_CT_isSign_39 46 (by decide) (fun q7 => ?_) (fun q7 => ?_)
              · have hf := ite_f q7 hf
                refine g_iconst X d_CT_isSign_46 (v := (nI 0)) rfl ?_
                exact g_zret X d_CT_isSign_47 hr hk9 rfl hf
              · have hf := ite_t q7 hf
                refine g_iconst X d_CT_isSign_42 (v := (nI 1)) rfl ?_
                refine g_goto X d_CT_isSign_43 47 (by decide) ?_
                exact g_zret X d_CT_isSign_47 hr hk9 rfl hf
section
variable {R : Room} {kc ks : Nat} {Q : State → Prop} {nL : Nat} {cc : ByteArray} {own : String} {pc : Nat} {lv lv' : List (Nat × Value)} {st : List Value}
theorem ca_CT_isSign {x0 : Int32} (X : Cx Γ p R s m args c cc nL own kc ks) {idx : Nat} (hd : decode cc pc = .ok (.invokestatic idx, 3)) (hlk : Cond.methodLink own idx y_CT_isSign ∈ lw_gt) (hR : 0 + 1 ≤ R.frames ∧ 8 + (1 + 11) + 0 ≤ R.locals) (hw : (st.map fun v => v.category).sum ≤ 8) {σ σ' : Sg} {r : Int32} (hf : f_CT_isSign x0 σ = some (r, σ')) (k : G Γ p l e R s m args below meth c kc ks Q nL (pc + 3) lv (.int r :: st) σ') : G Γ p l e R s m args below meth c kc ks Q nL pc lv (.int x0 :: st) σ :=
  g_callS (As := [.int x0]) (rest := st) X hd (c_CT_isSign' hf) co_CT_isSign hlk wn_CT_isSign hR rfl rfl hw k
theorem can_CT_isSign {x0 : Int32} (X : Cx Γ p R s m args c cc nL own kc ks) {idx : Nat} (hd : decode cc pc = .ok (.invokestatic idx, 3)) (hlk : (own, idx, y_CT_isSign) ∈ z_nests) (hR : 0 + 1 ≤ R.frames ∧ 8 + (1 + 11) + 0 ≤ R.locals) (hw : (st.map fun v => v.category).sum ≤ 8) {σ σ' : Sg} {r : Int32} (hf : f_CT_isSign x0 σ = some (r, σ')) (k : G Γ p l e R s m args below meth c kc ks Q nL (pc + 3) lv (.int r :: st) σ') : G Γ p l e R s m args below meth c kc ks Q nL pc lv (.int x0 :: st) σ :=
  g_callSN (As := [.int x0]) (rest := st) X hd (c_CT_isSign' hf) co_CT_isSign hlk wn_CT_isSign hR rfl rfl hw k
end
set_option maxRecDepth 10000 in
theorem c_CT_at' {Γ : Gm} {l : Launch} {a0 n0 : Nat} {x1 : Int32} {σ σ' : Sg} {r : Int32} (hk0 : kd a0 = (1, n0)) (hf : f_CT_at a0 n0 x1 σ = some (r, σ')) : Ctr Γ l y_CT_at c_CT_at 2 (some .int) 0 0 [.ref (Γ.2.2.1 a0), .int x1] σ σ' (some (.int r)) := by
  refine Ctr.of (lv := [(0, .ref (Γ.2.2.1 a0)), (1, .int x1)]) (by decide +kernel) (Nat.le_of_ble_eq_true rfl) rfl ?_
  intro p e s m args below meth c X hr hk9
  have X : Cx Γ p (z_rm 0 0) s m args c c_CT_at 2 "CaptionTallies" 0 0 := X
  rw [f_CT_at] at hf
  refine g_iload_n X d_CT_at_0 1 rfl ?_
  refine g_if_lt X d_CT_at_1 16 (by decide) (fun q1 => ?_) (fun q1 => ?_)
  · have hf := ite_t q1 hf
    refine g_bipush X d_CT_at_16 (v := (-5)) rfl ?_
    exact g_iret X d_CT_at_18 hr hk9 hf
  · have hf := ite_f q1 hf
    refine g_iload_n X d_CT_at_4 1 rfl ?_
    refine g_aload_n X d_CT_at_5 0 rfl ?_
    refine g_alen X d_CT_at_6 (v := (nI n0)) hk0 rfl ?_
    refine g_ic_ge X d_CT_at_7 16 (by decide) (fun q2 => ?_) (fun q2 => ?_)
    · have hf := ite_t q2 hf
      refine g_bipush X d_CT_at_16 (v := (-5)) rfl ?_
      exact g_iret X d_CT_at_18 hr hk9 hf
    · have hf := ite_f q2 hf
      refine g_aload_n X d_CT_at_10 0 rfl ?_
      refine g_iload_n X d_CT_at_11 1 rfl ?_
      obtain ⟨b3, hf⟩ := gd_some hf
      refine g_iald X d_CT_at_12 hk0 b3 ?_
      refine g_goto X d_CT_at_13 18 (by decide) ?_
      exact g_iret X d_CT_at_18 hr hk9 hf
section
variable {R : Room} {kc ks : Nat} {Q : State → Prop} {nL : Nat} {cc : ByteArray} {own : String} {pc : Nat} {lv lv' : List (Nat × Value)} {st : List Value}
theorem ca_CT_at {a0 n0 : Nat} {x1 : Int32} (X : Cx Γ p R s m args c cc nL own kc ks) {idx : Nat} (hd : decode cc pc = .ok (.invokestatic idx, 3)) (hlk : Cond.methodLink own idx y_CT_at ∈ lw_gt) (hR : 0 + 1 ≤ R.frames ∧ 8 + (2 + 11) + 0 ≤ R.locals) (hw : (st.map fun v => v.category).sum ≤ 8) (hk0 : kd a0 = (1, n0)) {σ σ' : Sg} {r : Int32} (hf : f_CT_at a0 n0 x1 σ = some (r, σ')) (k : G Γ p l e R s m args below meth c kc ks Q nL (pc + 3) lv (.int r :: st) σ') : G Γ p l e R s m args below meth c kc ks Q nL pc lv (.int x1 :: .ref (Γ.2.2.1 a0) :: st) σ :=
  g_callS (As := [.ref (Γ.2.2.1 a0), .int x1]) (rest := st) X hd (c_CT_at' hk0 hf) co_CT_at hlk wn_CT_at hR rfl rfl hw k
theorem can_CT_at {a0 n0 : Nat} {x1 : Int32} (X : Cx Γ p R s m args c cc nL own kc ks) {idx : Nat} (hd : decode cc pc = .ok (.invokestatic idx, 3)) (hlk : (own, idx, y_CT_at) ∈ z_nests) (hR : 0 + 1 ≤ R.frames ∧ 8 + (2 + 11) + 0 ≤ R.locals) (hw : (st.map fun v => v.category).sum ≤ 8) (hk0 : kd a0 = (1, n0)) {σ σ' : Sg} {r : Int32} (hf : f_CT_at a0 n0 x1 σ = some (r, σ')) (k : G Γ p l e R s m args below meth c kc ks Q nL (pc + 3) lv (.int r :: st) σ') : G Γ p l e R s m args below meth c kc ks Q nL pc lv (.int x1 :: .ref (Γ.2.2.1 a0) :: st) σ :=
  g_callSN (As := [.ref (Γ.2.2.1 a0), .int x1]) (rest := st) X hd (c_CT_at' hk0 hf) co_CT_at hlk wn_CT_at hR rfl rfl hw k
end
set_option maxRecDepth 10000 in
theorem c_DR_codeAt' {Γ : Gm} {l : Launch} {x1 : Int32} {σ σ' : Sg} {r : Int32} (hf : f_DR_codeAt x1 σ = some (r, σ')) : Ctr Γ l y_DR_codeAt c_DR_codeAt 2 (some .int) 1 21 [.ref (Γ.2.2.1 78), .int x1] σ σ' (some (.int r)) := by
  refine Ctr.of (lv := [(0, .ref (Γ.2.2.1 78)), (1, .int x1)]) (by decide +kernel) (Nat.le_of_ble_eq_true rfl) rfl ?_
  intro p e s m args below meth c X hr hk9
  have X : Cx Γ p (z_rm 1 21) s m args c c_DR_codeAt 2 "CaptionTallies$Draft" 0 0 := X
  rw [f_DR_codeAt] at hf
  refine g_aload_n X d_DR_codeAt_0 0 rfl ?_
  refine gf_78_0 X d_DR_codeAt_1 wl_DR_9 ?_
  refine g_iload_n X d_DR_codeAt_4 1 rfl ?_
  obtain ⟨r1, σ2, er1, hf⟩ := bd_some hf
  refine can_CT_at X d_DR_codeAt_5 wl_DR_19 ⟨Nat.le_of_ble_eq_true rfl, Nat.le_of_ble_eq_true rfl⟩ (sum8 rfl) kd_79 er1 ?_
  exact g_iret X d_DR_codeAt_8 hr hk9 hf
section
variable {R : Room} {kc ks : Nat} {Q : State → Prop} {nL : Nat} {cc : ByteArray} {own : String} {pc : Nat} {lv lv' : List (Nat × Value)} {st : List Value}
theorem ca_DR_codeAt {x1 : Int32} (X : Cx Γ p R s m args c cc nL own kc ks) {idx : Nat} (hd : decode cc pc = .ok (.invokevirtual idx, 3)) (hlk : Cond.methodLink own idx y_DR_codeAt ∈ lw_gt) (hR : 1 + 1 ≤ R.frames ∧ 8 + (2 + 11) + 21 ≤ R.locals) (hw : (st.map fun v => v.category).sum ≤ 8) {σ σ' : Sg} {r : Int32} (hf : f_DR_codeAt x1 σ = some (r, σ')) (k : G Γ p l e R s m args below meth c kc ks Q nL (pc + 3) lv (.int r :: st) σ') : G Γ p l e R s m args below meth c kc ks Q nL pc lv (.int x1 :: .ref (Γ.2.2.1 78) :: st) σ :=
  g_callV (As := [.int x1]) (rest := st) X hd (c_DR_codeAt' hf) co_DR_codeAt hlk wn_DR_codeAt wse_DR_codeAt (by decide) kd_78 rfl hR rfl rfl hw k
end
set_option maxRecDepth 10000 in
theorem w_DR_firstFault_51 {r : Int32} {σ' : Sg} (X : Cx Γ p (z_rm 2 42) s m args c c_DR_firstFault 4 "CaptionTallies$Draft" 0 0) (hr : meth.sig.returnType = (some .int)) (hk9 : meth.locks = false)  (x1 : Int32) (σ : Sg) (hf : f_DR_firstFault_51 x1 σ = some (r, σ')) : G Γ p l e (z_rm 2 42) s m args below meth c 0 0 (MQ below (Qx Γ (some (.int r)) σ') args s 0 0 (fun q : Nat => Γ.2.2.2 ≤ q)) 4 51 [(0, .ref (Γ.2.2.1 78)), (1, .int x1)] [] σ := by
  rw [f_DR_firstFault_51] at hf
  refine g_iload_n X d_DR_firstFault_51 1 rfl ?_
  refine g_if_eq X d_DR_firstFault_52 59 (by decide) (fun q1 => ?_) (fun q1 => ?_)
  · have hf := ite_t q1 hf
    refine g_aload_n X d_DR_firstFault_59 0 rfl ?_
    refine gf_78_1 X d_DR_firstFault_60 wl_DR_15 ?_
    exact g_iret X d_DR_firstFault_63 hr hk9 hf
  · have hf := ite_f q1 hf
    refine g_iconst X d_DR_firstFault_55 (v := (-1)) rfl ?_
    refine g_goto X d_DR_firstFault_56 63 (by decide) ?_
    exact g_iret X d_DR_firstFault_63 hr hk9 hf
set_option maxRecDepth 10000 in
theorem w_DR_firstFault_4 {r : Int32} {σ' : Sg} (X : Cx Γ p (z_rm 2 42) s m args c c_DR_firstFault 4 "CaptionTallies$Draft" 0 0) (hr : meth.sig.returnType = (some .int)) (hk9 : meth.locks = false) : ∀ (n9 : Nat) (x1 : Int32) (x2 : Int32) (σ : Sg), f_DR_firstFault_4 n9 x1 x2 σ = some (r, σ') → G Γ p l e (z_rm 2 42) s m args below meth c 0 0 (MQ below (Qx Γ (some (.int r)) σ') args s 0 0 (fun q : Nat => Γ.2.2.2 ≤ q)) 4 4 [(0, .ref (Γ.2.2.1 78)), (1, .int x1), (2, .int x2)] [] σ := by
  intro n9
  induction n9 with
  | zero => intro x1 x2 σ hf; cases hf
  | succ n9 ih =>
    intro x1 x2 σ hf
    rw [f_DR_firstFault_4] at hf
    refine g_iload_n X d_DR_firstFault_4 2 rfl ?_
    refine g_aload_n X d_DR_firstFault_5 0 rfl ?_
    refine gf_78_1 X d_DR_firstFault_6 wl_DR_15 ?_
    refine g_ic_ge X d_DR_firstFault_9 51 (by decide) (fun q1 => ?_) (fun q1 => ?_)
    · have hf := ite_t q1 hf
      refine g_sub [0, 1] rfl ?_
      exact w_DR_firstFault_51 X hr hk9 _ _ hf
    · have hf := ite_f q1 hf
      refine g_iload_n X d_DR_firstFault_12 2 rfl ?_
      refine g_bipush X d_DR_firstFault_13 (v := (nI 60)) rfl ?_
      refine g_ic_ge X d_DR_firstFault_15 51 (by decide) (fun q2 => ?_) (fun q2 => ?_)
      · have hf := ite_t q2 hf
        refine g_sub [0, 1] rfl ?_
        exact w_DR_firstFault_51 X hr hk9 _ _ hf
      · have hf := ite_f q2 hf
        refine g_aload_n X d_DR_firstFault_18 0 rfl ?_
        refine g_iload_n X d_DR_firstFault_19 2 rfl ?_
        obtain ⟨r3, σ4, er3, hf⟩ := bd_some hf
        refine ca_DR_codeAt X d_DR_firstFault_20 wl_DR_27 ⟨Nat.le_of_ble_eq_true rfl, Nat.le_of_ble_eq_true rfl⟩ (sum8 rfl) er3 ?_
        refine g_istore_n X d_DR_firstFault_23 rfl (lv' := [(3, .int r3), (0, .ref (Γ.2.2.1 78)), (1, .int x1), (2, .int x2)]) (Nat.le_of_ble_eq_true rfl) rfl ?_
        refine g_iload_n X d_DR_firstFault_24 0 rfl ?_
        obtain ⟨r5, σ6, er5, hf⟩ := bd_some hf
        refine can_CT_isLetter X d_DR_firstFault_25 wl_DR_31 ⟨Nat.le_of_ble_eq_true rfl, Nat.le_of_ble_eq_true rfl⟩ (sum8 rfl) er5 ?_
        refine g_if_eq X d_DR_firstFault_28 36 (by decide) (fun q7 => ?_) (fun q7 => ?_)
        · have hf := ite_t q7 hf
          refine g_iload_n X d_DR_firstFault_36 0 rfl ?_
          obtain ⟨r8, σ9, er8, hf⟩ := bd_some hf
          refine can_CT_isSign X d_DR_firstFault_37 wl_DR_35 ⟨Nat.le_of_ble_eq_true rfl, Nat.le_of_ble_eq_true rfl⟩ (sum8 rfl) er8 ?_
          refine g_if_ne X d_DR_firstFault_40 45 (by decide) (fun q10 => ?_) (fun q10 => ?_)
          · have hf := ite_f q10 hf
            refine g_iinc X d_DR_firstFault_45 (j := 3) (lv' := [(2, .int (x2 + (nI 1))), (3, .int r3), (0, .ref (Γ.2.2.1 78)), (1, .int x1)]) rfl rfl (Nat.le_of_ble_eq_true rfl) rfl ?_
            refine g_goto X d_DR_firstFault_48 4 (by decide) ?_
            refine g_sub [2, 3, 0] rfl ?_
            exact ih _ _ _ hf
          · have hf := ite_t q10 hf
            refine g_iload_n X d_DR_firstFault_43 3 rfl ?_
            exact g_iret X d_DR_firstFault_44 hr hk9 hf
        · have hf := ite_f q7 hf
          refine g_iconst X d_DR_firstFault_31 (v := (nI 1)) rfl ?_
          refine g_istore_n X d_DR_firstFault_32 rfl (lv' := [(1, .int (nI 1)), (3, .int r3), (0, .ref (Γ.2.2.1 78)), (2, .int x2)]) (Nat.le_of_ble_eq_true rfl) rfl ?_
          refine g_goto X d_DR_firstFault_33 45 (by decide) ?_
          refine g_iinc X d_DR_firstFault_45 (j := 3) (lv' := [(2, .int (x2 + (nI 1))), (1, .int (nI 1)), (3, .int r3), (0, .ref (Γ.2.2.1 78))]) rfl rfl (Nat.le_of_ble_eq_true rfl) rfl ?_
          refine g_goto X d_DR_firstFault_48 4 (by decide) ?_
          refine g_sub [3, 1, 0] rfl ?_
          exact ih _ _ _ hf
set_option maxRecDepth 10000 in
theorem c_DR_firstFault' {Γ : Gm} {l : Launch} {σ σ' : Sg} {r : Int32} (hf : f_DR_firstFault σ = some (r, σ')) : Ctr Γ l y_DR_firstFault c_DR_firstFault 4 (some .int) 2 42 [.ref (Γ.2.2.1 78)] σ σ' (some (.int r)) := by
  refine Ctr.of (lv := [(0, .ref (Γ.2.2.1 78))]) (by decide +kernel) (Nat.le_of_ble_eq_true rfl) rfl ?_
  intro p e s m args below meth c X hr hk9
  have X : Cx Γ p (z_rm 2 42) s m args c c_DR_firstFault 4 "CaptionTallies$Draft" 0 0 := X
  rw [f_DR_firstFault] at hf
  refine g_iconst X d_DR_firstFault_0 (v := (nI 0)) rfl ?_
  refine g_istore_n X d_DR_firstFault_1 rfl (lv' := [(1, .int (nI 0)), (0, .ref (Γ.2.2.1 78))]) (Nat.le_of_ble_eq_true rfl) rfl ?_
  refine g_iconst X d_DR_firstFault_2 (v := (nI 0)) rfl ?_
  refine g_istore_n X d_DR_firstFault_3 rfl (lv' := [(2, .int (nI 0)), (1, .int (nI 0)), (0, .ref (Γ.2.2.1 78))]) (Nat.le_of_ble_eq_true rfl) rfl ?_
  refine g_sub [2, 1, 0] rfl ?_
  exact w_DR_firstFault_4 X hr hk9 _ _ _ _ hf
section
variable {R : Room} {kc ks : Nat} {Q : State → Prop} {nL : Nat} {cc : ByteArray} {own : String} {pc : Nat} {lv lv' : List (Nat × Value)} {st : List Value}
theorem ca_DR_firstFault (X : Cx Γ p R s m args c cc nL own kc ks) {idx : Nat} (hd : decode cc pc = .ok (.invokevirtual idx, 3)) (hlk : Cond.methodLink own idx y_DR_firstFault ∈ lw_gt) (hR : 2 + 1 ≤ R.frames ∧ 8 + (4 + 11) + 42 ≤ R.locals) (hw : (st.map fun v => v.category).sum ≤ 8) {σ σ' : Sg} {r : Int32} (hf : f_DR_firstFault σ = some (r, σ')) (k : G Γ p l e R s m args below meth c kc ks Q nL (pc + 3) lv (.int r :: st) σ') : G Γ p l e R s m args below meth c kc ks Q nL pc lv (.ref (Γ.2.2.1 78) :: st) σ :=
  g_callV (As := []) (rest := st) X hd (c_DR_firstFault' hf) co_DR_firstFault hlk wn_DR_firstFault wse_DR_firstFault (by decide) kd_78 rfl hR rfl rfl hw k
end
set_option maxRecDepth 10000 in
theorem w_HI_dropOldest_9 {r : Int32} {σ' : Sg} (X : Cx Γ p (z_rm 0 0) s m args c c_HI_dropOldest 3 "CaptionTallies$History" 0 0) (hr : meth.sig.returnType = none) (hk9 : meth.locks = false) : ∀ (n9 : Nat) (x2 : Int32) (c1 : Nat) (σ : Sg), f_HI_dropOldest_9 n9 x2 c1 σ = some (r, σ') → G Γ p l e (z_rm 0 0) s m args below meth c 0 0 (MQ below (Qx Γ none σ') args s 0 0 (fun q : Nat => Γ.2.2.2 ≤ q)) 3 9 [(0, .ref (Γ.2.2.1 80)), (1, .ref (Γ.2.2.1 c1)), (2, .int x2)] [] σ := by
  intro n9
  induction n9 with
  | zero => intro x2 c1 σ hf; cases hf
  | succ n9 ih =>
    intro x2 c1 σ hf
    rw [f_HI_dropOldest_9] at hf
    refine g_iload_n X d_HI_dropOldest_9 2 rfl ?_
    refine g_iconst X d_HI_dropOldest_10 (v := (nI 4)) rfl ?_
    refine g_ic_ge X d_HI_dropOldest_11 34 (by decide) (fun q1 => ?_) (fun q1 => ?_)
    · have hf := ite_t q1 hf
      refine g_aload_n X d_HI_dropOldest_34 0 rfl ?_
      refine gf_80_0 X d_HI_dropOldest_35 wl_HI_11 ?_
      refine g_iconst X d_HI_dropOldest_38 (v := (nI 3)) rfl ?_
      refine g_aload_n X d_HI_dropOldest_39 1 rfl ?_
      obtain ⟨b2, hf⟩ := gd_some hf
      obtain ⟨b3, hf⟩ := gd_some hf
      obtain ⟨σ4, eσ4, hf⟩ := lt_ex hf
      refine g_qast X d_HI_dropOldest_40 kd_81 b2 b3 eσ4 ?_
      refine g_aload_n X d_HI_dropOldest_41 0 rfl ?_
      refine g_iconst X d_HI_dropOldest_42 (v := (nI 3)) rfl ?_
      obtain ⟨σ5, eσ5, hf⟩ := lt_ex hf
      refine gp_80_1 X d_HI_dropOldest_43 wl_HI_18 eσ5 ?_
      exact g_vret X d_HI_dropOldest_46 hr hk9 hf
    · have hf := ite_f q1 hf
      refine g_aload_n X d_HI_dropOldest_14 0 rfl ?_
      refine gf_80_0 X d_HI_dropOldest_15 wl_HI_11 ?_
      refine g_iload_n X d_HI_dropOldest_18 2 rfl ?_
      refine g_iconst X d_HI_dropOldest_19 (v := (nI 1)) rfl ?_
      refine g_isub X d_HI_dropOldest_20 ?_
      refine g_aload_n X d_HI_dropOldest_21 0 rfl ?_
      refine gf_80_0 X d_HI_dropOldest_22 wl_HI_11 ?_
      refine g_iload_n X d_HI_dropOldest_25 2 rfl ?_
      obtain ⟨b6, hf⟩ := gd_some hf
      refine g_qald X d_HI_dropOldest_26 kd_81 b6 ?_
      obtain ⟨b7, hf⟩ := gd_some hf
      obtain ⟨b8, hf⟩ := gd_some hf
      obtain ⟨σ9, eσ9, hf⟩ := lt_ex hf
      refine g_qast X d_HI_dropOldest_27 kd_81 b7 b8 eσ9 ?_
      refine g_iinc X d_HI_dropOldest_28 (j := 2) (lv' := [(2, .int (x2 + (nI 1))), (0, .ref (Γ.2.2.1 80)), (1, .ref (Γ.2.2.1 c1))]) rfl rfl (Nat.le_of_ble_eq_true rfl) rfl ?_
      refine g_goto X d_HI_dropOldest_31 9 (by decide) ?_
      refine g_sub [1, 2, 0] rfl ?_
      exact ih _ _ _ hf
set_option maxRecDepth 10000 in
theorem c_HI_dropOldest' {Γ : Gm} {l : Launch} {σ σ' : Sg} {r : Int32} (hf : f_HI_dropOldest σ = some (r, σ')) : Ctr Γ l y_HI_dropOldest c_HI_dropOldest 3 none 0 0 [.ref (Γ.2.2.1 80)] σ σ' none := by
  refine Ctr.of (lv := [(0, .ref (Γ.2.2.1 80))]) (by decide +kernel) (Nat.le_of_ble_eq_true rfl) rfl ?_
  intro p e s m args below meth c X hr hk9
  have X : Cx Γ p (z_rm 0 0) s m args c c_HI_dropOldest 3 "CaptionTallies$History" 0 0 := X
  rw [f_HI_dropOldest] at hf
  refine g_aload_n X d_HI_dropOldest_0 0 rfl ?_
  refine gf_80_0 X d_HI_dropOldest_1 wl_HI_11 ?_
  refine g_iconst X d_HI_dropOldest_4 (v := (nI 0)) rfl ?_
  obtain ⟨b1, hf⟩ := gd_some hf
  refine g_qald X d_HI_dropOldest_5 kd_81 b1 ?_
  obtain ⟨c2, ec2, hf⟩ := lt_ex hf
  refine g_topr ec2 ?_
  refine g_astore_n X d_HI_dropOldest_6 rfl (lv' := [(1, .ref (Γ.2.2.1 c2)), (0, .ref (Γ.2.2.1 80))]) (Nat.le_of_ble_eq_true rfl) rfl ?_
  refine g_iconst X d_HI_dropOldest_7 (v := (nI 1)) rfl ?_
  refine g_istore_n X d_HI_dropOldest_8 rfl (lv' := [(2, .int (nI 1)), (1, .ref (Γ.2.2.1 c2)), (0, .ref (Γ.2.2.1 80))]) (Nat.le_of_ble_eq_true rfl) rfl ?_
  refine g_sub [2, 1, 0] rfl ?_
  exact w_HI_dropOldest_9 X hr hk9 _ _ _ _ hf
section
variable {R : Room} {kc ks : Nat} {Q : State → Prop} {nL : Nat} {cc : ByteArray} {own : String} {pc : Nat} {lv lv' : List (Nat × Value)} {st : List Value}
theorem ca_HI_dropOldest (X : Cx Γ p R s m args c cc nL own kc ks) {idx : Nat} (hd : decode cc pc = .ok (.invokevirtual idx, 3)) (hlk : Cond.methodLink own idx y_HI_dropOldest ∈ lw_gt) (hR : 0 + 1 ≤ R.frames ∧ 8 + (3 + 11) + 0 ≤ R.locals) (hw : (st.map fun v => v.category).sum ≤ 8) {σ σ' : Sg} {r : Int32} (hf : f_HI_dropOldest σ = some (r, σ')) (k : G Γ p l e R s m args below meth c kc ks Q nL (pc + 3) lv (st) σ') : G Γ p l e R s m args below meth c kc ks Q nL pc lv (.ref (Γ.2.2.1 80) :: st) σ :=
  g_callV (As := []) (rest := st) X hd (c_HI_dropOldest' hf) co_HI_dropOldest hlk wn_HI_dropOldest wse_HI_dropOldest (by decide) kd_80 rfl hR rfl rfl hw k
end
set_option maxRecDepth 10000 in
theorem c_CT_copyFlags' {Γ : Gm} {l : Launch} {a0 n0 : Nat} {a1 n1 : Nat} {σ σ' : Sg} {r : Int32} (hk0 : kd a0 = (2, n0)) (hk1 : kd a1 = (2, n1)) (hf : f_CT_copyFlags a0 n0 a1 n1 σ = some (r, σ')) : Ctr Γ l y_CT_copyFlags c_CT_copyFlags 2 none 1 18 [.ref (Γ.2.2.1 a0), .ref (Γ.2.2.1 a1)] σ σ' none := by
  refine Ctr.of (lv := [(0, .ref (Γ.2.2.1 a0)), (1, .ref (Γ.2.2.1 a1))]) (by decide +kernel) (Nat.le_of_ble_eq_true rfl) rfl ?_
  intro p e s m args below meth c X hr hk9
  have X : Cx Γ p (z_rm 1 18) s m args c c_CT_copyFlags 2 "CaptionTallies" 0 0 := X
  rw [f_CT_copyFlags] at hf
  refine g_aload_n X d_CT_copyFlags_0 0 rfl ?_
  refine g_iconst X d_CT_copyFlags_1 (v := (nI 0)) rfl ?_
  refine g_aload_n X d_CT_copyFlags_2 1 rfl ?_
  refine g_iconst X d_CT_copyFlags_3 (v := (nI 0)) rfl ?_
  refine g_aload_n X d_CT_copyFlags_4 0 rfl ?_
  refine g_zlen X d_CT_copyFlags_5 (v := (nI n0)) hk0 rfl ?_
  refine g_aload_n X d_CT_copyFlags_6 1 rfl ?_
  refine g_zlen X d_CT_copyFlags_7 (v := (nI n1)) hk1 rfl ?_
  refine g_mmin X d_CT_copyFlags_8 wl_CT_335 wm_min_s wi_MA wm_min_c ⟨Nat.le_of_ble_eq_true rfl, Nat.le_of_ble_eq_true rfl⟩ ?_
  obtain ⟨b1, hf⟩ := gd_some hf
  obtain ⟨b2, hf⟩ := gd_some hf
  obtain ⟨σ3, eσ3, hf⟩ := lt_ex hf
  refine g_copyZ X d_CT_copyFlags_11 wl_CT_340 wm_cp_n wm_cp_s wi_SY hk0 hk1 (cpok_of b1).1 (cpok_of b1).2.1 (cpok_of b1).2.2 b2 ⟨Nat.le_of_ble_eq_true rfl, Nat.le_of_ble_eq_true rfl⟩ eσ3 ?_
  exact g_vret X d_CT_copyFlags_14 hr hk9 hf
section
variable {R : Room} {kc ks : Nat} {Q : State → Prop} {nL : Nat} {cc : ByteArray} {own : String} {pc : Nat} {lv lv' : List (Nat × Value)} {st : List Value}
theorem ca_CT_copyFlags {a0 n0 : Nat} {a1 n1 : Nat} (X : Cx Γ p R s m args c cc nL own kc ks) {idx : Nat} (hd : decode cc pc = .ok (.invokestatic idx, 3)) (hlk : Cond.methodLink own idx y_CT_copyFlags ∈ lw_gt) (hR : 1 + 1 ≤ R.frames ∧ 8 + (2 + 11) + 18 ≤ R.locals) (hw : (st.map fun v => v.category).sum ≤ 8) (hk0 : kd a0 = (2, n0)) (hk1 : kd a1 = (2, n1)) {σ σ' : Sg} {r : Int32} (hf : f_CT_copyFlags a0 n0 a1 n1 σ = some (r, σ')) (k : G Γ p l e R s m args below meth c kc ks Q nL (pc + 3) lv (st) σ') : G Γ p l e R s m args below meth c kc ks Q nL pc lv (.ref (Γ.2.2.1 a1) :: .ref (Γ.2.2.1 a0) :: st) σ :=
  g_callS (As := [.ref (Γ.2.2.1 a0), .ref (Γ.2.2.1 a1)]) (rest := st) X hd (c_CT_copyFlags' hk0 hk1 hf) co_CT_copyFlags hlk wn_CT_copyFlags hR rfl rfl hw k
theorem can_CT_copyFlags {a0 n0 : Nat} {a1 n1 : Nat} (X : Cx Γ p R s m args c cc nL own kc ks) {idx : Nat} (hd : decode cc pc = .ok (.invokestatic idx, 3)) (hlk : (own, idx, y_CT_copyFlags) ∈ z_nests) (hR : 1 + 1 ≤ R.frames ∧ 8 + (2 + 11) + 18 ≤ R.locals) (hw : (st.map fun v => v.category).sum ≤ 8) (hk0 : kd a0 = (2, n0)) (hk1 : kd a1 = (2, n1)) {σ σ' : Sg} {r : Int32} (hf : f_CT_copyFlags a0 n0 a1 n1 σ = some (r, σ')) (k : G Γ p l e R s m args below meth c kc ks Q nL (pc + 3) lv (st) σ') : G Γ p l e R s m args below meth c kc ks Q nL pc lv (.ref (Γ.2.2.1 a1) :: .ref (Γ.2.2.1 a0) :: st) σ :=
  g_callSN (As := [.ref (Γ.2.2.1 a0), .ref (Γ.2.2.1 a1)]) (rest := st) X hd (c_CT_copyFlags' hk0 hk1 hf) co_CT_copyFlags hlk wn_CT_copyFlags hR rfl rfl hw k
end
set_option maxRecDepth 10000 in
theorem c_CT_copyRow' {Γ : Gm} {l : Launch} {a0 n0 : Nat} {a1 n1 : Nat} {σ σ' : Sg} {r : Int32} (hk0 : kd a0 = (1, n0)) (hk1 : kd a1 = (1, n1)) (hf : f_CT_copyRow a0 n0 a1 n1 σ = some (r, σ')) : Ctr Γ l y_CT_copyRow c_CT_copyRow 2 none 1 18 [.ref (Γ.2.2.1 a0), .ref (Γ.2.2.1 a1)] σ σ' none := by
  refine Ctr.of (lv := [(0, .ref (Γ.2.2.1 a0)), (1, .ref (Γ.2.2.1 a1))]) (by decide +kernel) (Nat.le_of_ble_eq_true rfl) rfl ?_
  intro p e s m args below meth c X hr hk9
  have X : Cx Γ p (z_rm 1 18) s m args c c_CT_copyRow 2 "CaptionTallies" 0 0 := X
  rw [f_CT_copyRow] at hf
  refine g_aload_n X d_CT_copyRow_0 0 rfl ?_
  refine g_iconst X d_CT_copyRow_1 (v := (nI 0)) rfl ?_
  refine g_aload_n X d_CT_copyRow_2 1 rfl ?_
  refine g_iconst X d_CT_copyRow_3 (v := (nI 0)) rfl ?_
  refine g_aload_n X d_CT_copyRow_4 0 rfl ?_
  refine g_alen X d_CT_copyRow_5 (v := (nI n0)) hk0 rfl ?_
  refine g_aload_n X d_CT_copyRow_6 1 rfl ?_
  refine g_alen X d_CT_copyRow_7 (v := (nI n1)) hk1 rfl ?_
  refine g_mmin X d_CT_copyRow_8 wl_CT_335 wm_min_s wi_MA wm_min_c ⟨Nat.le_of_ble_eq_true rfl, Nat.le_of_ble_eq_true rfl⟩ ?_
  obtain ⟨b1, hf⟩ := gd_some hf
  obtain ⟨σ2, eσ2, hf⟩ := lt_ex hf
  refine g_copyI X d_CT_copyRow_11 wl_CT_340 wm_cp_n wm_cp_s wi_SY hk0 hk1 (cpok_of b1).1 (cpok_of b1).2.1 (cpok_of b1).2.2 ⟨Nat.le_of_ble_eq_true rfl, Nat.le_of_ble_eq_true rfl⟩ eσ2 ?_
  exact g_vret X d_CT_copyRow_14 hr hk9 hf
section
variable {R : Room} {kc ks : Nat} {Q : State → Prop} {nL : Nat} {cc : ByteArray} {own : String} {pc : Nat} {lv lv' : List (Nat × Value)} {st : List Value}
theorem ca_CT_copyRow {a0 n0 : Nat} {a1 n1 : Nat} (X : Cx Γ p R s m args c cc nL own kc ks) {idx : Nat} (hd : decode cc pc = .ok (.invokestatic idx, 3)) (hlk : Cond.methodLink own idx y_CT_copyRow ∈ lw_gt) (hR : 1 + 1 ≤ R.frames ∧ 8 + (2 + 11) + 18 ≤ R.locals) (hw : (st.map fun v => v.category).sum ≤ 8) (hk0 : kd a0 = (1, n0)) (hk1 : kd a1 = (1, n1)) {σ σ' : Sg} {r : Int32} (hf : f_CT_copyRow a0 n0 a1 n1 σ = some (r, σ')) (k : G Γ p l e R s m args below meth c kc ks Q nL (pc + 3) lv (st) σ') : G Γ p l e R s m args below meth c kc ks Q nL pc lv (.ref (Γ.2.2.1 a1) :: .ref (Γ.2.2.1 a0) :: st) σ :=
  g_callS (As := [.ref (Γ.2.2.1 a0), .ref (Γ.2.2.1 a1)]) (rest := st) X hd (c_CT_copyRow' hk0 hk1 hf) co_CT_copyRow hlk wn_CT_copyRow hR rfl rfl hw k
theorem can_CT_copyRow {a0 n0 : Nat} {a1 n1 : Nat} (X : Cx Γ p R s m args c cc nL own kc ks) {idx : Nat} (hd : decode cc pc = .ok (.invokestatic idx, 3)) (hlk : (own, idx, y_CT_copyRow) ∈ z_nests) (hR : 1 + 1 ≤ R.frames ∧ 8 + (2 + 11) + 18 ≤ R.locals) (hw : (st.map fun v => v.category).sum ≤ 8) (hk0 : kd a0 = (1, n0)) (hk1 : kd a1 = (1, n1)) {σ σ' : Sg} {r : Int32} (hf : f_CT_copyRow a0 n0 a1 n1 σ = some (r, σ')) (k : G Γ p l e R s m args below meth c kc ks Q nL (pc + 3) lv (st) σ') : G Γ p l e R s m args below meth c kc ks Q nL pc lv (.ref (Γ.2.2.1 a1) :: .ref (Γ.2.2.1 a0) :: st) σ :=
  g_callSN (As := [.ref (Γ.2.2.1 a0), .ref (Γ.2.2.1 a1)]) (rest := st) X hd (c_CT_copyRow' hk0 hk1 hf) co_CT_copyRow hlk wn_CT_copyRow hR rfl rfl hw k
end
set_option maxRecDepth 10000 in
theorem c_ST_copyFrom' {Γ : Gm} {l : Launch} {a0 : Nat} {a1 : Nat} {σ σ' : Sg} {r : Int32} (hs0 : isSt a0 = true) (hs1 : isSt a1 = true) (hf : f_ST_copyFrom a0 a1 σ = some (r, σ')) : Ctr Γ l y_ST_copyFrom c_ST_copyFrom 2 none 2 39 [.ref (Γ.2.2.1 a0), .ref (Γ.2.2.1 a1)] σ σ' none := by
  refine Ctr.of (lv := [(0, .ref (Γ.2.2.1 a0)), (1, .ref (Γ.2.2.1 a1))]) (by decide +kernel) (Nat.le_of_ble_eq_true rfl) rfl ?_
  intro p e s m args below meth c X hr hk9
  have X : Cx Γ p (z_rm 2 39) s m args c c_ST_copyFrom 2 "CaptionTallies$State" 0 0 := X
  rw [f_ST_copyFrom] at hf
  refine g_aload_n X d_ST_copyFrom_0 0 rfl ?_
  refine g_aload_n X d_ST_copyFrom_1 1 rfl ?_
  refine gfS_0 X d_ST_copyFrom_2 wl_ST_9 hs1 ?_
  obtain ⟨σ1, eσ1, hf⟩ := lt_ex hf
  refine gpS_0 X d_ST_copyFrom_5 wl_ST_9 hs0 eσ1 ?_
  refine g_aload_n X d_ST_copyFrom_8 1 rfl ?_
  refine gfS_1 X d_ST_copyFrom_9 wl_ST_15 hs1 ?_
  refine g_aload_n X d_ST_copyFrom_12 0 rfl ?_
  refine gfS_1 X d_ST_copyFrom_13 wl_ST_15 hs0 ?_
  obtain ⟨r2, σ3, er2, hf⟩ := bd_some hf
  refine can_CT_copyFlags X d_ST_copyFrom_16 wl_ST_59 ⟨Nat.le_of_ble_eq_true rfl, Nat.le_of_ble_eq_true rfl⟩ (sum8 rfl) (kd_St1 hs1) (kd_St1 hs0) er2 ?_
  refine g_aload_n X d_ST_copyFrom_19 1 rfl ?_
  refine gfS_2 X d_ST_copyFrom_20 wl_ST_19 hs1 ?_
  refine g_aload_n X d_ST_copyFrom_23 0 rfl ?_
  refine gfS_2 X d_ST_copyFrom_24 wl_ST_19 hs0 ?_
  obtain ⟨r4, σ5, er4, hf⟩ := bd_some hf
  refine can_CT_copyRow X d_ST_copyFrom_27 wl_ST_63 ⟨Nat.le_of_ble_eq_true rfl, Nat.le_of_ble_eq_true rfl⟩ (sum8 rfl) (kd_St2 hs1) (kd_St2 hs0) er4 ?_
  refine g_aload_n X d_ST_copyFrom_30 1 rfl ?_
  refine gfS_3 X d_ST_copyFrom_31 wl_ST_23 hs1 ?_
  refine g_aload_n X d_ST_copyFrom_34 0 rfl ?_
  refine gfS_3 X d_ST_copyFrom_35 wl_ST_23 hs0 ?_
  obtain ⟨r6, σ7, er6, hf⟩ := bd_some hf
  refine can_CT_copyRow X d_ST_copyFrom_38 wl_ST_63 ⟨Nat.le_of_ble_eq_true rfl, Nat.le_of_ble_eq_true rfl⟩ (sum8 rfl) (kd_St3 hs1) (kd_St3 hs0) er6 ?_
  refine g_aload_n X d_ST_copyFrom_41 1 rfl ?_
  refine gfS_4 X d_ST_copyFrom_42 wl_ST_26 hs1 ?_
  refine g_aload_n X d_ST_copyFrom_45 0 rfl ?_
  refine gfS_4 X d_ST_copyFrom_46 wl_ST_26 hs0 ?_
  obtain ⟨r8, σ9, er8, hf⟩ := bd_some hf
  refine can_CT_copyRow X d_ST_copyFrom_49 wl_ST_63 ⟨Nat.le_of_ble_eq_true rfl, Nat.le_of_ble_eq_true rfl⟩ (sum8 rfl) (kd_St4 hs1) (kd_St4 hs0) er8 ?_
  refine g_aload_n X d_ST_copyFrom_52 1 rfl ?_
  refine gfS_5 X d_ST_copyFrom_53 wl_ST_29 hs1 ?_
  refine g_aload_n X d_ST_copyFrom_56 0 rfl ?_
  refine gfS_5 X d_ST_copyFrom_57 wl_ST_29 hs0 ?_
  obtain ⟨r10, σ11, er10, hf⟩ := bd_some hf
  refine can_CT_copyRow X d_ST_copyFrom_60 wl_ST_63 ⟨Nat.le_of_ble_eq_true rfl, Nat.le_of_ble_eq_true rfl⟩ (sum8 rfl) (kd_St5 hs1) (kd_St5 hs0) er10 ?_
  refine g_aload_n X d_ST_copyFrom_63 1 rfl ?_
  refine gfS_6 X d_ST_copyFrom_64 wl_ST_32 hs1 ?_
  refine g_aload_n X d_ST_copyFrom_67 0 rfl ?_
  refine gfS_6 X d_ST_copyFrom_68 wl_ST_32 hs0 ?_
  obtain ⟨r12, σ13, er12, hf⟩ := bd_some hf
  refine can_CT_copyRow X d_ST_copyFrom_71 wl_ST_63 ⟨Nat.le_of_ble_eq_true rfl, Nat.le_of_ble_eq_true rfl⟩ (sum8 rfl) (kd_St6 hs1) (kd_St6 hs0) er12 ?_
  refine g_aload_n X d_ST_copyFrom_74 1 rfl ?_
  refine gfS_7 X d_ST_copyFrom_75 wl_ST_35 hs1 ?_
  refine g_aload_n X d_ST_copyFrom_78 0 rfl ?_
  refine gfS_7 X d_ST_copyFrom_79 wl_ST_35 hs0 ?_
  obtain ⟨r14, σ15, er14, hf⟩ := bd_some hf
  refine can_CT_copyRow X d_ST_copyFrom_82 wl_ST_63 ⟨Nat.le_of_ble_eq_true rfl, Nat.le_of_ble_eq_true rfl⟩ (sum8 rfl) (kd_St7 hs1) (kd_St7 hs0) er14 ?_
  refine g_aload_n X d_ST_copyFrom_85 1 rfl ?_
  refine gfS_8 X d_ST_copyFrom_86 wl_ST_38 hs1 ?_
  refine g_aload_n X d_ST_copyFrom_89 0 rfl ?_
  refine gfS_8 X d_ST_copyFrom_90 wl_ST_38 hs0 ?_
  obtain ⟨r16, σ17, er16, hf⟩ := bd_some hf
  refine can_CT_copyFlags X d_ST_copyFrom_93 wl_ST_59 ⟨Nat.le_of_ble_eq_true rfl, Nat.le_of_ble_eq_true rfl⟩ (sum8 rfl) (kd_St8 hs1) (kd_St8 hs0) er16 ?_
  refine g_aload_n X d_ST_copyFrom_96 1 rfl ?_
  refine gfS_9 X d_ST_copyFrom_97 wl_ST_41 hs1 ?_
  refine g_aload_n X d_ST_copyFrom_100 0 rfl ?_
  refine gfS_9 X d_ST_copyFrom_101 wl_ST_41 hs0 ?_
  obtain ⟨r18, σ19, er18, hf⟩ := bd_some hf
  refine can_CT_copyRow X d_ST_copyFrom_104 wl_ST_63 ⟨Nat.le_of_ble_eq_true rfl, Nat.le_of_ble_eq_true rfl⟩ (sum8 rfl) (kd_St9 hs1) (kd_St9 hs0) er18 ?_
  refine g_aload_n X d_ST_copyFrom_107 1 rfl ?_
  refine gfS_10 X d_ST_copyFrom_108 wl_ST_44 hs1 ?_
  refine g_aload_n X d_ST_copyFrom_111 0 rfl ?_
  refine gfS_10 X d_ST_copyFrom_112 wl_ST_44 hs0 ?_
  obtain ⟨r20, σ21, er20, hf⟩ := bd_some hf
  refine can_CT_copyRow X d_ST_copyFrom_115 wl_ST_63 ⟨Nat.le_of_ble_eq_true rfl, Nat.le_of_ble_eq_true rfl⟩ (sum8 rfl) (kd_St10 hs1) (kd_St10 hs0) er20 ?_
  refine g_aload_n X d_ST_copyFrom_118 1 rfl ?_
  refine gfS_11 X d_ST_copyFrom_119 wl_ST_47 hs1 ?_
  refine g_aload_n X d_ST_copyFrom_122 0 rfl ?_
  refine gfS_11 X d_ST_copyFrom_123 wl_ST_47 hs0 ?_
  obtain ⟨r22, σ23, er22, hf⟩ := bd_some hf
  refine can_CT_copyRow X d_ST_copyFrom_126 wl_ST_63 ⟨Nat.le_of_ble_eq_true rfl, Nat.le_of_ble_eq_true rfl⟩ (sum8 rfl) (kd_St11 hs1) (kd_St11 hs0) er22 ?_
  refine g_aload_n X d_ST_copyFrom_129 1 rfl ?_
  refine gfS_12 X d_ST_copyFrom_130 wl_ST_50 hs1 ?_
  refine g_aload_n X d_ST_copyFrom_133 0 rfl ?_
  refine gfS_12 X d_ST_copyFrom_134 wl_ST_50 hs0 ?_
  obtain ⟨r24, σ25, er24, hf⟩ := bd_some hf
  refine can_CT_copyRow X d_ST_copyFrom_137 wl_ST_63 ⟨Nat.le_of_ble_eq_true rfl, Nat.le_of_ble_eq_true rfl⟩ (sum8 rfl) (kd_St12 hs1) (kd_St12 hs0) er24 ?_
  exact g_vret X d_ST_copyFrom_140 hr hk9 hf
section
variable {R : Room} {kc ks : Nat} {Q : State → Prop} {nL : Nat} {cc : ByteArray} {own : String} {pc : Nat} {lv lv' : List (Nat × Value)} {st : List Value}
theorem ca_ST_copyFrom {a0 : Nat} {a1 : Nat} (X : Cx Γ p R s m args c cc nL own kc ks) {idx : Nat} (hd : decode cc pc = .ok (.invokevirtual idx, 3)) (hlk : Cond.methodLink own idx y_ST_copyFrom ∈ lw_gt) (hR : 2 + 1 ≤ R.frames ∧ 8 + (2 + 11) + 39 ≤ R.locals) (hw : (st.map fun v => v.category).sum ≤ 8) (hs0 : isSt a0 = true) (hs1 : isSt a1 = true) {σ σ' : Sg} {r : Int32} (hf : f_ST_copyFrom a0 a1 σ = some (r, σ')) (k : G Γ p l e R s m args below meth c kc ks Q nL (pc + 3) lv (st) σ') : G Γ p l e R s m args below meth c kc ks Q nL pc lv (.ref (Γ.2.2.1 a1) :: .ref (Γ.2.2.1 a0) :: st) σ :=
  g_callV (As := [.ref (Γ.2.2.1 a1)]) (rest := st) X hd (c_ST_copyFrom' hs0 hs1 hf) co_ST_copyFrom hlk wn_ST_copyFrom wse_ST_copyFrom (kd_st hs0).2 (kd_st hs0).1 rfl hR rfl rfl hw k
end
set_option maxRecDepth 10000 in
theorem w_HI_record_12 {r : Int32} {σ' : Sg} (X : Cx Γ p (z_rm 3 60) s m args c c_HI_record 2 "CaptionTallies$History" 0 0) (hr : meth.sig.returnType = none) (hk9 : meth.locks = false)  (σ : Sg) (hf : f_HI_record_12 σ = some (r, σ')) : G Γ p l e (z_rm 3 60) s m args below meth c 0 0 (MQ below (Qx Γ none σ') args s 0 0 (fun q : Nat => Γ.2.2.2 ≤ q)) 2 12 [(0, .ref (Γ.2.2.1 80)), (1, .ref (Γ.2.2.1 0))] [] σ := by
  rw [f_HI_record_12] at hf
  refine g_aload_n X d_HI_record_12 0 rfl ?_
  refine gf_80_1 X d_HI_record_13 wl_HI_18 ?_
  refine g_iconst X d_HI_record_16 (v := (nI 4)) rfl ?_
  obtain ⟨r1, σ2, er1, hf⟩ := bd_some hf
  refine can_CT_isIndex X d_HI_record_17 wl_HI_25 ⟨Nat.le_of_ble_eq_true rfl, Nat.le_of_ble_eq_true rfl⟩ (sum8 rfl) er1 ?_
  refine g_if_eq X d_HI_record_20 46 (by decide) (fun q3 => ?_) (fun q3 => ?_)
  · have hf := ite_t q3 hf
    exact g_vret X d_HI_record_46 hr hk9 hf
  · have hf := ite_f q3 hf
    refine g_aload_n X d_HI_record_23 0 rfl ?_
    refine gf_80_0 X d_HI_record_24 wl_HI_11 ?_
    refine g_aload_n X d_HI_record_27 0 rfl ?_
    refine gf_80_1 X d_HI_record_28 wl_HI_18 ?_
    obtain ⟨b4, hf⟩ := gd_some hf
    refine g_qald X d_HI_record_31 kd_81 b4 ?_
    refine g_aload_n X d_HI_record_32 1 rfl ?_
    obtain ⟨b5, hf⟩ := gd_some hf
    obtain ⟨r6, σ7, er6, hf⟩ := bd_some hf
    refine ca_ST_copyFrom X d_HI_record_33 wl_HI_29 ⟨Nat.le_of_ble_eq_true rfl, Nat.le_of_ble_eq_true rfl⟩ (sum8 rfl) b5 (by rfl) er6 ?_
    refine g_aload_n X d_HI_record_36 0 rfl ?_
    refine g_dup X d_HI_record_37 rfl ?_
    refine gf_80_1 X d_HI_record_38 wl_HI_18 ?_
    refine g_iconst X d_HI_record_41 (v := (nI 1)) rfl ?_
    refine g_iadd X d_HI_record_42 ?_
    obtain ⟨σ8, eσ8, hf⟩ := lt_ex hf
    refine gp_80_1 X d_HI_record_43 wl_HI_18 eσ8 ?_
    exact g_vret X d_HI_record_46 hr hk9 hf
set_option maxRecDepth 10000 in
theorem c_HI_record' {Γ : Gm} {l : Launch} {σ σ' : Sg} {r : Int32} (hf : f_HI_record σ = some (r, σ')) : Ctr Γ l y_HI_record c_HI_record 2 none 3 60 [.ref (Γ.2.2.1 80), .ref (Γ.2.2.1 0)] σ σ' none := by
  refine Ctr.of (lv := [(0, .ref (Γ.2.2.1 80)), (1, .ref (Γ.2.2.1 0))]) (by decide +kernel) (Nat.le_of_ble_eq_true rfl) rfl ?_
  intro p e s m args below meth c X hr hk9
  have X : Cx Γ p (z_rm 3 60) s m args c c_HI_record 2 "CaptionTallies$History" 0 0 := X
  rw [f_HI_record] at hf
  refine g_aload_n X d_HI_record_0 0 rfl ?_
  refine gf_80_1 X d_HI_record_1 wl_HI_18 ?_
  refine g_iconst X d_HI_record_4 (v := (nI 4)) rfl ?_
  refine g_ic_lt X d_HI_record_5 12 (by decide) (fun q1 => ?_) (fun q1 => ?_)
  · have hf := ite_t q1 hf
    exact w_HI_record_12 X hr hk9 _ hf
  · have hf := ite_f q1 hf
    refine g_aload_n X d_HI_record_8 0 rfl ?_
    obtain ⟨r2, σ3, er2, hf⟩ := bd_some hf
    refine ca_HI_dropOldest X d_HI_record_9 wl_HI_22 ⟨Nat.le_of_ble_eq_true rfl, Nat.le_of_ble_eq_true rfl⟩ (sum8 rfl) er2 ?_
    exact w_HI_record_12 X hr hk9 _ hf
section
variable {R : Room} {kc ks : Nat} {Q : State → Prop} {nL : Nat} {cc : ByteArray} {own : String} {pc : Nat} {lv lv' : List (Nat × Value)} {st : List Value}
theorem ca_HI_record (X : Cx Γ p R s m args c cc nL own kc ks) {idx : Nat} (hd : decode cc pc = .ok (.invokevirtual idx, 3)) (hlk : Cond.methodLink own idx y_HI_record ∈ lw_gt) (hR : 3 + 1 ≤ R.frames ∧ 8 + (2 + 11) + 60 ≤ R.locals) (hw : (st.map fun v => v.category).sum ≤ 8) {σ σ' : Sg} {r : Int32} (hf : f_HI_record σ = some (r, σ')) (k : G Γ p l e R s m args below meth c kc ks Q nL (pc + 3) lv (st) σ') : G Γ p l e R s m args below meth c kc ks Q nL pc lv (.ref (Γ.2.2.1 0) :: .ref (Γ.2.2.1 80) :: st) σ :=
  g_callV (As := [.ref (Γ.2.2.1 0)]) (rest := st) X hd (c_HI_record' hf) co_HI_record hlk wn_HI_record wse_HI_record (by decide) kd_80 rfl hR rfl rfl hw k
end
set_option maxRecDepth 10000 in
theorem c_DR_length' {Γ : Gm} {l : Launch} {σ σ' : Sg} {r : Int32} (hf : f_DR_length σ = some (r, σ')) : Ctr Γ l y_DR_length c_DR_length 1 (some .int) 0 0 [.ref (Γ.2.2.1 78)] σ σ' (some (.int r)) := by
  refine Ctr.of (lv := [(0, .ref (Γ.2.2.1 78))]) (by decide +kernel) (Nat.le_of_ble_eq_true rfl) rfl ?_
  intro p e s m args below meth c X hr hk9
  have X : Cx Γ p (z_rm 0 0) s m args c c_DR_length 1 "CaptionTallies$Draft" 0 0 := X
  rw [f_DR_length] at hf
  refine g_aload_n X d_DR_length_0 0 rfl ?_
  refine gf_78_1 X d_DR_length_1 wl_DR_15 ?_
  exact g_iret X d_DR_length_4 hr hk9 hf
section
variable {R : Room} {kc ks : Nat} {Q : State → Prop} {nL : Nat} {cc : ByteArray} {own : String} {pc : Nat} {lv lv' : List (Nat × Value)} {st : List Value}
theorem ca_DR_length (X : Cx Γ p R s m args c cc nL own kc ks) {idx : Nat} (hd : decode cc pc = .ok (.invokevirtual idx, 3)) (hlk : Cond.methodLink own idx y_DR_length ∈ lw_gt) (hR : 0 + 1 ≤ R.frames ∧ 8 + (1 + 11) + 0 ≤ R.locals) (hw : (st.map fun v => v.category).sum ≤ 8) {σ σ' : Sg} {r : Int32} (hf : f_DR_length σ = some (r, σ')) (k : G Γ p l e R s m args below meth c kc ks Q nL (pc + 3) lv (.int r :: st) σ') : G Γ p l e R s m args below meth c kc ks Q nL pc lv (.ref (Γ.2.2.1 78) :: st) σ :=
  g_callV (As := []) (rest := st) X hd (c_DR_length' hf) co_DR_length hlk wn_DR_length wse_DR_length (by decide) kd_78 rfl hR rfl rfl hw k
end
set_option maxRecDepth 10000 in
theorem c_CT_put' {Γ : Gm} {l : Launch} {a0 n0 : Nat} {x1 : Int32} {x2 : Int32} {σ σ' : Sg} {r : Int32} (hk0 : kd a0 = (1, n0)) (hf : f_CT_put a0 n0 x1 x2 σ = some (r, σ')) : Ctr Γ l y_CT_put c_CT_put 3 none 0 0 [.ref (Γ.2.2.1 a0), .int x1, .int x2] σ σ' none := by
  refine Ctr.of (lv := [(0, .ref (Γ.2.2.1 a0)), (1, .int x1), (2, .int x2)]) (by decide +kernel) (Nat.le_of_ble_eq_true rfl) rfl ?_
  intro p e s m args below meth c X hr hk9
  have X : Cx Γ p (z_rm 0 0) s m args c c_CT_put 3 "CaptionTallies" 0 0 := X
  rw [f_CT_put] at hf
  refine g_iload_n X d_CT_put_0 1 rfl ?_
  refine g_if_lt X d_CT_put_1 14 (by decide) (fun q1 => ?_) (fun q1 => ?_)
  · have hf := ite_t q1 hf
    exact g_vret X d_CT_put_14 hr hk9 hf
  · have hf := ite_f q1 hf
    refine g_iload_n X d_CT_put_4 1 rfl ?_
    refine g_aload_n X d_CT_put_5 0 rfl ?_
    refine g_alen X d_CT_put_6 (v := (nI n0)) hk0 rfl ?_
    refine g_ic_ge X d_CT_put_7 14 (by decide) (fun q2 => ?_) (fun q2 => ?_)
    · have hf := ite_t q2 hf
      exact g_vret X d_CT_put_14 hr hk9 hf
    · have hf := ite_f q2 hf
      refine g_aload_n X d_CT_put_10 0 rfl ?_
      refine g_iload_n X d_CT_put_11 1 rfl ?_
      refine g_iload_n X d_CT_put_12 2 rfl ?_
      obtain ⟨b3, hf⟩ := gd_some hf
      obtain ⟨σ4, eσ4, hf⟩ := lt_ex hf
      refine g_iast X d_CT_put_13 hk0 b3 eσ4 ?_
      exact g_vret X d_CT_put_14 hr hk9 hf
section
variable {R : Room} {kc ks : Nat} {Q : State → Prop} {nL : Nat} {cc : ByteArray} {own : String} {pc : Nat} {lv lv' : List (Nat × Value)} {st : List Value}
theorem ca_CT_put {a0 n0 : Nat} {x1 : Int32} {x2 : Int32} (X : Cx Γ p R s m args c cc nL own kc ks) {idx : Nat} (hd : decode cc pc = .ok (.invokestatic idx, 3)) (hlk : Cond.methodLink own idx y_CT_put ∈ lw_gt) (hR : 0 + 1 ≤ R.frames ∧ 8 + (3 + 11) + 0 ≤ R.locals) (hw : (st.map fun v => v.category).sum ≤ 8) (hk0 : kd a0 = (1, n0)) {σ σ' : Sg} {r : Int32} (hf : f_CT_put a0 n0 x1 x2 σ = some (r, σ')) (k : G Γ p l e R s m args below meth c kc ks Q nL (pc + 3) lv (st) σ') : G Γ p l e R s m args below meth c kc ks Q nL pc lv (.int x2 :: .int x1 :: .ref (Γ.2.2.1 a0) :: st) σ :=
  g_callS (As := [.ref (Γ.2.2.1 a0), .int x1, .int x2]) (rest := st) X hd (c_CT_put' hk0 hf) co_CT_put hlk wn_CT_put hR rfl rfl hw k
theorem can_CT_put {a0 n0 : Nat} {x1 : Int32} {x2 : Int32} (X : Cx Γ p R s m args c cc nL own kc ks) {idx : Nat} (hd : decode cc pc = .ok (.invokestatic idx, 3)) (hlk : (own, idx, y_CT_put) ∈ z_nests) (hR : 0 + 1 ≤ R.frames ∧ 8 + (3 + 11) + 0 ≤ R.locals) (hw : (st.map fun v => v.category).sum ≤ 8) (hk0 : kd a0 = (1, n0)) {σ σ' : Sg} {r : Int32} (hf : f_CT_put a0 n0 x1 x2 σ = some (r, σ')) (k : G Γ p l e R s m args below meth c kc ks Q nL (pc + 3) lv (st) σ') : G Γ p l e R s m args below meth c kc ks Q nL pc lv (.int x2 :: .int x1 :: .ref (Γ.2.2.1 a0) :: st) σ :=
  g_callSN (As := [.ref (Γ.2.2.1 a0), .int x1, .int x2]) (rest := st) X hd (c_CT_put' hk0 hf) co_CT_put hlk wn_CT_put hR rfl rfl hw k
end
set_option maxRecDepth 10000 in
theorem c_CT_smallOf' {Γ : Gm} {l : Launch} {x0 : Int32} {σ σ' : Sg} {r : Int32} (hf : f_CT_smallOf x0 σ = some (r, σ')) : Ctr Γ l y_CT_smallOf c_CT_smallOf 1 (some .int) 1 20 [.int x0] σ σ' (some (.int r)) := by
  refine Ctr.of (lv := [(0, .int x0)]) (by decide +kernel) (Nat.le_of_ble_eq_true rfl) rfl ?_
  intro p e s m args below meth c X hr hk9
  have X : Cx Γ p (z_rm 1 20) s m args c c_CT_smallOf 1 "CaptionTallies" 0 0 := X
  rw [f_CT_smallOf] at hf
  refine g_iload_n X d_CT_smallOf_0 0 rfl ?_
  obtain ⟨r1, σ2, er1, hf⟩ := bd_some hf
  refine ca_CT_isGreat X d_CT_smallOf_1 wl_CT_349 ⟨Nat.le_of_ble_eq_true rfl, Nat.le_of_ble_eq_true rfl⟩ (sum8 rfl) er1 ?_
  refine g_if_eq X d_CT_smallOf_4 17 (by decide) (fun q3 => ?_) (fun q3 => ?_)
  · have hf := ite_t q3 hf
    refine g_iload_n X d_CT_smallOf_17 0 rfl ?_
    exact g_iret X d_CT_smallOf_18 hr hk9 hf
  · have hf := ite_f q3 hf
    refine g_iload_n X d_CT_smallOf_7 0 rfl ?_
    refine g_bipush X d_CT_smallOf_8 (v := (nI 65)) rfl ?_
    refine g_isub X d_CT_smallOf_10 ?_
    refine g_bipush X d_CT_smallOf_11 (v := (nI 97)) rfl ?_
    refine g_iadd X d_CT_smallOf_13 ?_
    refine g_goto X d_CT_smallOf_14 18 (by decide) ?_
    exact g_iret X d_CT_smallOf_18 hr hk9 hf
section
variable {R : Room} {kc ks : Nat} {Q : State → Prop} {nL : Nat} {cc : ByteArray} {own : String} {pc : Nat} {lv lv' : List (Nat × Value)} {st : List Value}
theorem ca_CT_smallOf {x0 : Int32} (X : Cx Γ p R s m args c cc nL own kc ks) {idx : Nat} (hd : decode cc pc = .ok (.invokestatic idx, 3)) (hlk : Cond.methodLink own idx y_CT_smallOf ∈ lw_gt) (hR : 1 + 1 ≤ R.frames ∧ 8 + (1 + 11) + 20 ≤ R.locals) (hw : (st.map fun v => v.category).sum ≤ 8) {σ σ' : Sg} {r : Int32} (hf : f_CT_smallOf x0 σ = some (r, σ')) (k : G Γ p l e R s m args below meth c kc ks Q nL (pc + 3) lv (.int r :: st) σ') : G Γ p l e R s m args below meth c kc ks Q nL pc lv (.int x0 :: st) σ :=
  g_callS (As := [.int x0]) (rest := st) X hd (c_CT_smallOf' hf) co_CT_smallOf hlk wn_CT_smallOf hR rfl rfl hw k
theorem can_CT_smallOf {x0 : Int32} (X : Cx Γ p R s m args c cc nL own kc ks) {idx : Nat} (hd : decode cc pc = .ok (.invokestatic idx, 3)) (hlk : (own, idx, y_CT_smallOf) ∈ z_nests) (hR : 1 + 1 ≤ R.frames ∧ 8 + (1 + 11) + 20 ≤ R.locals) (hw : (st.map fun v => v.category).sum ≤ 8) {σ σ' : Sg} {r : Int32} (hf : f_CT_smallOf x0 σ = some (r, σ')) (k : G Γ p l e R s m args below meth c kc ks Q nL (pc + 3) lv (.int r :: st) σ') : G Γ p l e R s m args below meth c kc ks Q nL pc lv (.int x0 :: st) σ :=
  g_callSN (As := [.int x0]) (rest := st) X hd (c_CT_smallOf' hf) co_CT_smallOf hlk wn_CT_smallOf hR rfl rfl hw k
end
set_option maxRecDepth 10000 in
theorem c_ST_coreLengthOf' {Γ : Gm} {l : Launch} {x1 : Int32} {σ σ' : Sg} {r : Int32} (hf : f_ST_coreLengthOf x1 σ = some (r, σ')) : Ctr Γ l y_ST_coreLengthOf c_ST_coreLengthOf 2 (some .int) 1 21 [.ref (Γ.2.2.1 0), .int x1] σ σ' (some (.int r)) := by
  refine Ctr.of (lv := [(0, .ref (Γ.2.2.1 0)), (1, .int x1)]) (by decide +kernel) (Nat.le_of_ble_eq_true rfl) rfl ?_
  intro p e s m args below meth c X hr hk9
  have X : Cx Γ p (z_rm 1 21) s m args c c_ST_coreLengthOf 2 "CaptionTallies$State" 0 0 := X
  rw [f_ST_coreLengthOf] at hf
  refine g_aload_n X d_ST_coreLengthOf_0 0 rfl ?_
  refine gf_0_6 X d_ST_coreLengthOf_1 wl_ST_32 ?_
  refine g_iload_n X d_ST_coreLengthOf_4 1 rfl ?_
  obtain ⟨r1, σ2, er1, hf⟩ := bd_some hf
  refine can_CT_at X d_ST_coreLengthOf_5 wl_ST_117 ⟨Nat.le_of_ble_eq_true rfl, Nat.le_of_ble_eq_true rfl⟩ (sum8 rfl) kd_6 er1 ?_
  exact g_iret X d_ST_coreLengthOf_8 hr hk9 hf
section
variable {R : Room} {kc ks : Nat} {Q : State → Prop} {nL : Nat} {cc : ByteArray} {own : String} {pc : Nat} {lv lv' : List (Nat × Value)} {st : List Value}
theorem ca_ST_coreLengthOf {x1 : Int32} (X : Cx Γ p R s m args c cc nL own kc ks) {idx : Nat} (hd : decode cc pc = .ok (.invokevirtual idx, 3)) (hlk : Cond.methodLink own idx y_ST_coreLengthOf ∈ lw_gt) (hR : 1 + 1 ≤ R.frames ∧ 8 + (2 + 11) + 21 ≤ R.locals) (hw : (st.map fun v => v.category).sum ≤ 8) {σ σ' : Sg} {r : Int32} (hf : f_ST_coreLengthOf x1 σ = some (r, σ')) (k : G Γ p l e R s m args below meth c kc ks Q nL (pc + 3) lv (.int r :: st) σ') : G Γ p l e R s m args below meth c kc ks Q nL pc lv (.int x1 :: .ref (Γ.2.2.1 0) :: st) σ :=
  g_callV (As := [.int x1]) (rest := st) X hd (c_ST_coreLengthOf' hf) co_ST_coreLengthOf hlk wn_ST_coreLengthOf wse_ST_coreLengthOf (by decide) kd_0 rfl hR rfl rfl hw k
end
set_option maxRecDepth 10000 in
theorem c_ST_addLetter' {Γ : Gm} {l : Launch} {x1 : Int32} {x2 : Int32} {x3 : Int32} {σ σ' : Sg} {r : Int32} (hf : f_ST_addLetter x1 x2 x3 σ = some (r, σ')) : Ctr Γ l y_ST_addLetter c_ST_addLetter 5 none 2 42 [.ref (Γ.2.2.1 0), .int x1, .int x2, .int x3] σ σ' none := by
  refine Ctr.of (lv := [(0, .ref (Γ.2.2.1 0)), (1, .int x1), (2, .int x2), (3, .int x3)]) (by decide +kernel) (Nat.le_of_ble_eq_true rfl) rfl ?_
  intro p e s m args below meth c X hr hk9
  have X : Cx Γ p (z_rm 2 42) s m args c c_ST_addLetter 5 "CaptionTallies$State" 0 0 := X
  rw [f_ST_addLetter] at hf
  refine g_aload_n X d_ST_addLetter_0 0 rfl ?_
  refine gf_0_3 X d_ST_addLetter_1 wl_ST_23 ?_
  refine g_iload_n X d_ST_addLetter_4 1 rfl ?_
  refine g_bipush X d_ST_addLetter_5 (v := (nI 60)) rfl ?_
  refine g_imul X d_ST_addLetter_7 ?_
  refine g_iload_n X d_ST_addLetter_8 2 rfl ?_
  refine g_iadd X d_ST_addLetter_9 ?_
  refine g_iload_n X d_ST_addLetter_10 3 rfl ?_
  obtain ⟨r1, σ2, er1, hf⟩ := bd_some hf
  refine can_CT_put X d_ST_addLetter_11 wl_ST_98 ⟨Nat.le_of_ble_eq_true rfl, Nat.le_of_ble_eq_true rfl⟩ (sum8 rfl) kd_3 er1 ?_
  refine g_iload_n X d_ST_addLetter_14 3 rfl ?_
  obtain ⟨r3, σ4, er3, hf⟩ := bd_some hf
  refine can_CT_isLetter X d_ST_addLetter_15 wl_ST_102 ⟨Nat.le_of_ble_eq_true rfl, Nat.le_of_ble_eq_true rfl⟩ (sum8 rfl) er3 ?_
  refine g_if_eq X d_ST_addLetter_18 58 (by decide) (fun q5 => ?_) (fun q5 => ?_)
  · have hf := ite_t q5 hf
    exact g_vret X d_ST_addLetter_58 hr hk9 hf
  · have hf := ite_f q5 hf
    refine g_aload_n X d_ST_addLetter_21 0 rfl ?_
    refine g_iload_n X d_ST_addLetter_22 1 rfl ?_
    obtain ⟨r6, σ7, er6, hf⟩ := bd_some hf
    refine ca_ST_coreLengthOf X d_ST_addLetter_23 wl_ST_105 ⟨Nat.le_of_ble_eq_true rfl, Nat.le_of_ble_eq_true rfl⟩ (sum8 rfl) er6 ?_
    refine g_istore X d_ST_addLetter_26 (lv' := [(4, .int r6), (0, .ref (Γ.2.2.1 0)), (1, .int x1), (2, .int x2), (3, .int x3)]) (Nat.le_of_ble_eq_true rfl) rfl ?_
    refine g_aload_n X d_ST_addLetter_28 1 rfl ?_
    refine gf_0_5 X d_ST_addLetter_29 wl_ST_29 ?_
    refine g_iload_n X d_ST_addLetter_32 2 rfl ?_
    refine g_bipush X d_ST_addLetter_33 (v := (nI 60)) rfl ?_
    refine g_imul X d_ST_addLetter_35 ?_
    refine g_iload X d_ST_addLetter_36 0 rfl ?_
    refine g_iadd X d_ST_addLetter_38 ?_
    refine g_iload_n X d_ST_addLetter_39 4 rfl ?_
    obtain ⟨r8, σ9, er8, hf⟩ := bd_some hf
    refine can_CT_smallOf X d_ST_addLetter_40 wl_ST_108 ⟨Nat.le_of_ble_eq_true rfl, Nat.le_of_ble_eq_true rfl⟩ (sum8 rfl) er8 ?_
    obtain ⟨r10, σ11, er10, hf⟩ := bd_some hf
    refine can_CT_put X d_ST_addLetter_43 wl_ST_98 ⟨Nat.le_of_ble_eq_true rfl, Nat.le_of_ble_eq_true rfl⟩ (sum8 rfl) kd_5 er10 ?_
    refine g_aload_n X d_ST_addLetter_46 1 rfl ?_
    refine gf_0_6 X d_ST_addLetter_47 wl_ST_32 ?_
    refine g_iload_n X d_ST_addLetter_50 2 rfl ?_
    refine g_iload X d_ST_addLetter_51 0 rfl ?_
    refine g_iconst X d_ST_addLetter_53 (v := (nI 1)) rfl ?_
    refine g_iadd X d_ST_addLetter_54 ?_
    obtain ⟨r12, σ13, er12, hf⟩ := bd_some hf
    refine can_CT_put X d_ST_addLetter_55 wl_ST_98 ⟨Nat.le_of_ble_eq_true rfl, Nat.le_of_ble_eq_true rfl⟩ (sum8 rfl) kd_6 er12 ?_
    exact g_vret X d_ST_addLetter_58 hr hk9 hf
section
variable {R : Room} {kc ks : Nat} {Q : State → Prop} {nL : Nat} {cc : ByteArray} {own : String} {pc : Nat} {lv lv' : List (Nat × Value)} {st : List Value}
theorem ca_ST_addLetter {x1 : Int32} {x2 : Int32} {x3 : Int32} (X : Cx Γ p R s m args c cc nL own kc ks) {idx : Nat} (hd : decode cc pc = .ok (.invokevirtual idx, 3)) (hlk : Cond.methodLink own idx y_ST_addLetter ∈ lw_gt) (hR : 2 + 1 ≤ R.frames ∧ 8 + (5 + 11) + 42 ≤ R.locals) (hw : (st.map fun v => v.category).sum ≤ 8) {σ σ' : Sg} {r : Int32} (hf : f_ST_addLetter x1 x2 x3 σ = some (r, σ')) (k : G Γ p l e R s m args below meth c kc ks Q nL (pc + 3) lv (st) σ') : G Γ p l e R s m args below meth c kc ks Q nL pc lv (.int x3 :: .int x2 :: .int x1 :: .ref (Γ.2.2.1 0) :: st) σ :=
  g_callV (As := [.int x1, .int x2, .int x3]) (rest := st) X hd (c_ST_addLetter' hf) co_ST_addLetter hlk wn_ST_addLetter wse_ST_addLetter (by decide) kd_0 rfl hR rfl rfl hw k
end
set_option maxRecDepth 10000 in
theorem c_ST_coreLetter' {Γ : Gm} {l : Launch} {x1 : Int32} {x2 : Int32} {σ σ' : Sg} {r : Int32} (hf : f_ST_coreLetter x1 x2 σ = some (r, σ')) : Ctr Γ l y_ST_coreLetter c_ST_coreLetter 3 (some .int) 2 42 [.ref (Γ.2.2.1 0), .int x1, .int x2] σ σ' (some (.int r)) := by
  refine Ctr.of (lv := [(0, .ref (Γ.2.2.1 0)), (1, .int x1), (2, .int x2)]) (by decide +kernel) (Nat.le_of_ble_eq_true rfl) rfl ?_
  intro p e s m args below meth c X hr hk9
  have X : Cx Γ p (z_rm 2 42) s m args c c_ST_coreLetter 3 "CaptionTallies$State" 0 0 := X
  rw [f_ST_coreLetter] at hf
  refine g_iload_n X d_ST_coreLetter_0 2 rfl ?_
  refine g_aload_n X d_ST_coreLetter_1 0 rfl ?_
  refine g_iload_n X d_ST_coreLetter_2 1 rfl ?_
  obtain ⟨r1, σ2, er1, hf⟩ := bd_some hf
  refine ca_ST_coreLengthOf X d_ST_coreLetter_3 wl_ST_105 ⟨Nat.le_of_ble_eq_true rfl, Nat.le_of_ble_eq_true rfl⟩ (sum8 rfl) er1 ?_
  obtain ⟨r3, σ4, er3, hf⟩ := bd_some hf
  refine can_CT_isIndex X d_ST_coreLetter_6 wl_ST_67 ⟨Nat.le_of_ble_eq_true rfl, Nat.le_of_ble_eq_true rfl⟩ (sum8 rfl) er3 ?_
  refine g_if_eq X d_ST_coreLetter_9 28 (by decide) (fun q5 => ?_) (fun q5 => ?_)
  · have hf := ite_t q5 hf
    refine g_bipush X d_ST_coreLetter_28 (v := (-5)) rfl ?_
    exact g_iret X d_ST_coreLetter_30 hr hk9 hf
  · have hf := ite_f q5 hf
    refine g_aload_n X d_ST_coreLetter_12 0 rfl ?_
    refine gf_0_5 X d_ST_coreLetter_13 wl_ST_29 ?_
    refine g_iload_n X d_ST_coreLetter_16 1 rfl ?_
    refine g_bipush X d_ST_coreLetter_17 (v := (nI 60)) rfl ?_
    refine g_imul X d_ST_coreLetter_19 ?_
    refine g_iload_n X d_ST_coreLetter_20 2 rfl ?_
    refine g_iadd X d_ST_coreLetter_21 ?_
    obtain ⟨r6, σ7, er6, hf⟩ := bd_some hf
    refine can_CT_at X d_ST_coreLetter_22 wl_ST_117 ⟨Nat.le_of_ble_eq_true rfl, Nat.le_of_ble_eq_true rfl⟩ (sum8 rfl) kd_5 er6 ?_
    refine g_goto X d_ST_coreLetter_25 30 (by decide) ?_
    exact g_iret X d_ST_coreLetter_30 hr hk9 hf
section
variable {R : Room} {kc ks : Nat} {Q : State → Prop} {nL : Nat} {cc : ByteArray} {own : String} {pc : Nat} {lv lv' : List (Nat × Value)} {st : List Value}
theorem ca_ST_coreLetter {x1 : Int32} {x2 : Int32} (X : Cx Γ p R s m args c cc nL own kc ks) {idx : Nat} (hd : decode cc pc = .ok (.invokevirtual idx, 3)) (hlk : Cond.methodLink own idx y_ST_coreLetter ∈ lw_gt) (hR : 2 + 1 ≤ R.frames ∧ 8 + (3 + 11) + 42 ≤ R.locals) (hw : (st.map fun v => v.category).sum ≤ 8) {σ σ' : Sg} {r : Int32} (hf : f_ST_coreLetter x1 x2 σ = some (r, σ')) (k : G Γ p l e R s m args below meth c kc ks Q nL (pc + 3) lv (.int r :: st) σ') : G Γ p l e R s m args below meth c kc ks Q nL pc lv (.int x2 :: .int x1 :: .ref (Γ.2.2.1 0) :: st) σ :=
  g_callV (As := [.int x1, .int x2]) (rest := st) X hd (c_ST_coreLetter' hf) co_ST_coreLetter hlk wn_ST_coreLetter wse_ST_coreLetter (by decide) kd_0 rfl hR rfl rfl hw k
end
set_option maxRecDepth 10000 in
theorem w_ST_haveSameCore_17 {r : Int32} {σ' : Sg} (X : Cx Γ p (z_rm 3 64) s m args c c_ST_haveSameCore 4 "CaptionTallies$State" 0 0) (hr : meth.sig.returnType = (some .boolean)) (hk9 : meth.locks = false) : ∀ (n9 : Nat) (x1 : Int32) (x2 : Int32) (x3 : Int32) (σ : Sg), f_ST_haveSameCore_17 n9 x1 x2 x3 σ = some (r, σ') → G Γ p l e (z_rm 3 64) s m args below meth c 0 0 (MQ below (Qx Γ (some (.int r)) σ') args s 0 0 (fun q : Nat => Γ.2.2.2 ≤ q)) 4 17 [(0, .ref (Γ.2.2.1 0)), (1, .int x1), (2, .int x2), (3, .int x3)] [] σ := by
  intro n9
  induction n9 with
  | zero => intro x1 x2 x3 σ hf; cases hf
  | succ n9 ih =>
    intro x1 x2 x3 σ hf
    rw [f_ST_haveSameCore_17] at hf
    refine g_iload_n X d_ST_haveSameCore_17 3 rfl ?_
    refine g_bipush X d_ST_haveSameCore_18 (v := (nI 60)) rfl ?_
    refine g_ic_ge X d_ST_haveSameCore_20 55 (by decide) (fun q1 => ?_) (fun q1 => ?_)
    · have hf := ite_t q1 hf
      refine g_iconst X d_ST_haveSameCore_55 (v := (nI 1)) rfl ?_
      exact g_zret X d_ST_haveSameCore_56 hr hk9 rfl hf
    · have hf := ite_f q1 hf
      refine g_iload_n X d_ST_haveSameCore_23 3 rfl ?_
      refine g_aload_n X d_ST_haveSameCore_24 0 rfl ?_
      refine g_iload_n X d_ST_haveSameCore_25 1 rfl ?_
      obtain ⟨r2, σ3, er2, hf⟩ := bd_some hf
      refine ca_ST_coreLengthOf X d_ST_haveSameCore_26 wl_ST_105 ⟨Nat.le_of_ble_eq_true rfl, Nat.le_of_ble_eq_true rfl⟩ (sum8 rfl) er2 ?_
      refine g_ic_ge X d_ST_haveSameCore_29 55 (by decide) (fun q4 => ?_) (fun q4 => ?_)
      · have hf := ite_t q4 hf
        refine g_iconst X d_ST_haveSameCore_55 (v := (nI 1)) rfl ?_
        exact g_zret X d_ST_haveSameCore_56 hr hk9 rfl hf
      · have hf := ite_f q4 hf
        refine g_aload_n X d_ST_haveSameCore_32 0 rfl ?_
        refine g_iload_n X d_ST_haveSameCore_33 1 rfl ?_
        refine g_iload_n X d_ST_haveSameCore_34 3 rfl ?_
        obtain ⟨r5, σ6, er5, hf⟩ := bd_some hf
        refine ca_ST_coreLetter X d_ST_haveSameCore_35 wl_ST_114 ⟨Nat.le_of_ble_eq_true rfl, Nat.le_of_ble_eq_true rfl⟩ (sum8 rfl) er5 ?_
        refine g_aload_n X d_ST_haveSameCore_38 0 rfl ?_
        refine g_iload_n X d_ST_haveSameCore_39 2 rfl ?_
        refine g_iload_n X d_ST_haveSameCore_40 3 rfl ?_
        obtain ⟨r7, σ8, er7, hf⟩ := bd_some hf
        refine ca_ST_coreLetter X d_ST_haveSameCore_41 wl_ST_114 ⟨Nat.le_of_ble_eq_true rfl, Nat.le_of_ble_eq_true rfl⟩ (sum8 rfl) er7 ?_
        refine g_ic_eq X d_ST_haveSameCore_44 49 (by decide) (fun q9 => ?_) (fun q9 => ?_)
        · have hf := ite_t q9 hf
          refine g_iinc X d_ST_haveSameCore_49 (j := 3) (lv' := [(3, .int (x3 + (nI 1))), (0, .ref (Γ.2.2.1 0)), (1, .int x1), (2, .int x2)]) rfl rfl (Nat.le_of_ble_eq_true rfl) rfl ?_
          refine g_goto X d_ST_haveSameCore_52 17 (by decide) ?_
          refine g_sub [1, 2, 3, 0] rfl ?_
          exact ih _ _ _ _ hf
        · have hf := ite_f q9 hf
          refine g_iconst X d_ST_haveSameCore_47 (v := (nI 0)) rfl ?_
          exact g_zret X d_ST_haveSameCore_48 hr hk9 rfl hf
set_option maxRecDepth 10000 in
theorem c_ST_haveSameCore' {Γ : Gm} {l : Launch} {x1 : Int32} {x2 : Int32} {σ σ' : Sg} {r : Int32} (hf : f_ST_haveSameCore x1 x2 σ = some (r, σ')) : Ctr Γ l y_ST_haveSameCore c_ST_haveSameCore 4 (some .boolean) 3 64 [.ref (Γ.2.2.1 0), .int x1, .int x2] σ σ' (some (.int r)) := by
  refine Ctr.of (lv := [(0, .ref (Γ.2.2.1 0)), (1, .int x1), (2, .int x2)]) (by decide +kernel) (Nat.le_of_ble_eq_true rfl) rfl ?_
  intro p e s m args below meth c X hr hk9
  have X : Cx Γ p (z_rm 3 64) s m args c c_ST_haveSameCore 4 "CaptionTallies$State" 0 0 := X
  rw [f_ST_haveSameCore] at hf
  refine g_aload_n X d_ST_haveSameCore_0 0 rfl ?_
  refine g_iload_n X d_ST_haveSameCore_1 1 rfl ?_
  obtain ⟨r1, σ2, er1, hf⟩ := bd_some hf
  refine ca_ST_coreLengthOf X d_ST_haveSameCore_2 wl_ST_105 ⟨Nat.le_of_ble_eq_true rfl, Nat.le_of_ble_eq_true rfl⟩ (sum8 rfl) er1 ?_
  refine g_aload_n X d_ST_haveSameCore_5 0 rfl ?_
  refine g_iload_n X d_ST_haveSameCore_6 2 rfl ?_
  obtain ⟨r3, σ4, er3, hf⟩ := bd_some hf
  refine ca_ST_coreLengthOf X d_ST_haveSameCore_7 wl_ST_105 ⟨Nat.le_of_ble_eq_true rfl, Nat.le_of_ble_eq_true rfl⟩ (sum8 rfl) er3 ?_
  refine g_ic_eq X d_ST_haveSameCore_10 15 (by decide) (fun q5 => ?_) (fun q5 => ?_)
  · have hf := ite_t q5 hf
    refine g_iconst X d_ST_haveSameCore_15 (v := (nI 0)) rfl ?_
    refine g_istore_n X d_ST_haveSameCore_16 rfl (lv' := [(3, .int (nI 0)), (0, .ref (Γ.2.2.1 0)), (1, .int x1), (2, .int x2)]) (Nat.le_of_ble_eq_true rfl) rfl ?_
    refine g_sub [1, 2, 3, 0] rfl ?_
    exact w_ST_haveSameCore_17 X hr hk9 _ _ _ _ _ hf
  · have hf := ite_f q5 hf
    refine g_iconst X d_ST_haveSameCore_13 (v := (nI 0)) rfl ?_
    exact g_zret X d_ST_haveSameCore_14 hr hk9 rfl hf
section
variable {R : Room} {kc ks : Nat} {Q : State → Prop} {nL : Nat} {cc : ByteArray} {own : String} {pc : Nat} {lv lv' : List (Nat × Value)} {st : List Value}
theorem ca_ST_haveSameCore {x1 : Int32} {x2 : Int32} (X : Cx Γ p R s m args c cc nL own kc ks) {idx : Nat} (hd : decode cc pc = .ok (.invokevirtual idx, 3)) (hlk : Cond.methodLink own idx y_ST_haveSameCore ∈ lw_gt) (hR : 3 + 1 ≤ R.frames ∧ 8 + (4 + 11) + 64 ≤ R.locals) (hw : (st.map fun v => v.category).sum ≤ 8) {σ σ' : Sg} {r : Int32} (hf : f_ST_haveSameCore x1 x2 σ = some (r, σ')) (k : G Γ p l e R s m args below meth c kc ks Q nL (pc + 3) lv (.int r :: st) σ') : G Γ p l e R s m args below meth c kc ks Q nL pc lv (.int x2 :: .int x1 :: .ref (Γ.2.2.1 0) :: st) σ :=
  g_callV (As := [.int x1, .int x2]) (rest := st) X hd (c_ST_haveSameCore' hf) co_ST_haveSameCore hlk wn_ST_haveSameCore wse_ST_haveSameCore (by decide) kd_0 rfl hR rfl rfl hw k
end
set_option maxRecDepth 10000 in
theorem w_ST_firstWithCoreOf_2 {r : Int32} {σ' : Sg} (X : Cx Γ p (z_rm 4 87) s m args c c_ST_firstWithCoreOf 3 "CaptionTallies$State" 0 0) (hr : meth.sig.returnType = (some .int)) (hk9 : meth.locks = false) : ∀ (n9 : Nat) (x1 : Int32) (x2 : Int32) (σ : Sg), f_ST_firstWithCoreOf_2 n9 x1 x2 σ = some (r, σ') → G Γ p l e (z_rm 4 87) s m args below meth c 0 0 (MQ below (Qx Γ (some (.int r)) σ') args s 0 0 (fun q : Nat => Γ.2.2.2 ≤ q)) 3 2 [(0, .ref (Γ.2.2.1 0)), (1, .int x1), (2, .int x2)] [] σ := by
  intro n9
  induction n9 with
  | zero => intro x1 x2 σ hf; cases hf
  | succ n9 ih =>
    intro x1 x2 σ hf
    rw [f_ST_firstWithCoreOf_2] at hf
    refine g_iload_n X d_ST_firstWithCoreOf_2 2 rfl ?_
    refine g_iload_n X d_ST_firstWithCoreOf_3 1 rfl ?_
    refine g_ic_ge X d_ST_firstWithCoreOf_4 30 (by decide) (fun q1 => ?_) (fun q1 => ?_)
    · have hf := ite_t q1 hf
      refine g_iload_n X d_ST_firstWithCoreOf_30 1 rfl ?_
      exact g_iret X d_ST_firstWithCoreOf_31 hr hk9 hf
    · have hf := ite_f q1 hf
      refine g_iload_n X d_ST_firstWithCoreOf_7 2 rfl ?_
      refine g_bipush X d_ST_firstWithCoreOf_8 (v := (nI 20)) rfl ?_
      refine g_ic_ge X d_ST_firstWithCoreOf_10 30 (by decide) (fun q2 => ?_) (fun q2 => ?_)
      · have hf := ite_t q2 hf
        refine g_iload_n X d_ST_firstWithCoreOf_30 1 rfl ?_
        exact g_iret X d_ST_firstWithCoreOf_31 hr hk9 hf
      · have hf := ite_f q2 hf
        refine g_aload_n X d_ST_firstWithCoreOf_13 0 rfl ?_
        refine g_iload_n X d_ST_firstWithCoreOf_14 2 rfl ?_
        refine g_iload_n X d_ST_firstWithCoreOf_15 1 rfl ?_
        obtain ⟨r3, σ4, er3, hf⟩ := bd_some hf
        refine ca_ST_haveSameCore X d_ST_firstWithCoreOf_16 wl_ST_111 ⟨Nat.le_of_ble_eq_true rfl, Nat.le_of_ble_eq_true rfl⟩ (sum8 rfl) er3 ?_
        refine g_if_eq X d_ST_firstWithCoreOf_19 24 (by decide) (fun q5 => ?_) (fun q5 => ?_)
        · have hf := ite_t q5 hf
          refine g_iinc X d_ST_firstWithCoreOf_24 (j := 2) (lv' := [(2, .int (x2 + (nI 1))), (0, .ref (Γ.2.2.1 0)), (1, .int x1)]) rfl rfl (Nat.le_of_ble_eq_true rfl) rfl ?_
          refine g_goto X d_ST_firstWithCoreOf_27 2 (by decide) ?_
          refine g_sub [1, 2, 0] rfl ?_
          exact ih _ _ _ hf
        · have hf := ite_f q5 hf
          refine g_iload_n X d_ST_firstWithCoreOf_22 2 rfl ?_
          exact g_iret X d_ST_firstWithCoreOf_23 hr hk9 hf
set_option maxRecDepth 10000 in
theorem c_ST_firstWithCoreOf' {Γ : Gm} {l : Launch} {x1 : Int32} {σ σ' : Sg} {r : Int32} (hf : f_ST_firstWithCoreOf x1 σ = some (r, σ')) : Ctr Γ l y_ST_firstWithCoreOf c_ST_firstWithCoreOf 3 (some .int) 4 87 [.ref (Γ.2.2.1 0), .int x1] σ σ' (some (.int r)) := by
  refine Ctr.of (lv := [(0, .ref (Γ.2.2.1 0)), (1, .int x1)]) (by decide +kernel) (Nat.le_of_ble_eq_true rfl) rfl ?_
  intro p e s m args below meth c X hr hk9
  have X : Cx Γ p (z_rm 4 87) s m args c c_ST_firstWithCoreOf 3 "CaptionTallies$State" 0 0 := X
  rw [f_ST_firstWithCoreOf] at hf
  refine g_iconst X d_ST_firstWithCoreOf_0 (v := (nI 0)) rfl ?_
  refine g_istore_n X d_ST_firstWithCoreOf_1 rfl (lv' := [(2, .int (nI 0)), (0, .ref (Γ.2.2.1 0)), (1, .int x1)]) (Nat.le_of_ble_eq_true rfl) rfl ?_
  refine g_sub [1, 2, 0] rfl ?_
  exact w_ST_firstWithCoreOf_2 X hr hk9 _ _ _ _ hf
section
variable {R : Room} {kc ks : Nat} {Q : State → Prop} {nL : Nat} {cc : ByteArray} {own : String} {pc : Nat} {lv lv' : List (Nat × Value)} {st : List Value}
theorem ca_ST_firstWithCoreOf {x1 : Int32} (X : Cx Γ p R s m args c cc nL own kc ks) {idx : Nat} (hd : decode cc pc = .ok (.invokevirtual idx, 3)) (hlk : Cond.methodLink own idx y_ST_firstWithCoreOf ∈ lw_gt) (hR : 4 + 1 ≤ R.frames ∧ 8 + (3 + 11) + 87 ≤ R.locals) (hw : (st.map fun v => v.category).sum ≤ 8) {σ σ' : Sg} {r : Int32} (hf : f_ST_firstWithCoreOf x1 σ = some (r, σ')) (k : G Γ p l e R s m args below meth c kc ks Q nL (pc + 3) lv (.int r :: st) σ') : G Γ p l e R s m args below meth c kc ks Q nL pc lv (.int x1 :: .ref (Γ.2.2.1 0) :: st) σ :=
  g_callV (As := [.int x1]) (rest := st) X hd (c_ST_firstWithCoreOf' hf) co_ST_firstWithCoreOf hlk wn_ST_firstWithCoreOf wse_ST_firstWithCoreOf (by decide) kd_0 rfl hR rfl rfl hw k
end
set_option maxRecDepth 10000 in
theorem w_ST_add_60 {r : Int32} {σ' : Sg} (X : Cx Γ p (z_rm 5 109) s m args c c_ST_add 6 "CaptionTallies$State" 0 0) (hr : meth.sig.returnType = (some .int)) (hk9 : meth.locks = false) : ∀ (n9 : Nat) (x3 : Int32) (x4 : Int32) (x5 : Int32) (σ : Sg), f_ST_add_60 n9 x3 x4 x5 σ = some (r, σ') → G Γ p l e (z_rm 5 109) s m args below meth c 0 0 (MQ below (Qx Γ (some (.int r)) σ') args s 0 0 (fun q : Nat => Γ.2.2.2 ≤ q)) 6 60 [(0, .ref (Γ.2.2.1 0)), (2, .ref (Γ.2.2.1 78)), (3, .int x3), (4, .int x4), (5, .int x5)] [] σ := by
  intro n9
  induction n9 with
  | zero => intro x3 x4 x5 σ hf; cases hf
  | succ n9 ih =>
    intro x3 x4 x5 σ hf
    rw [f_ST_add_60] at hf
    refine g_iload X d_ST_add_60 4 rfl ?_
    refine g_iload X d_ST_add_62 3 rfl ?_
    refine g_ic_ge X d_ST_add_64 86 (by decide) (fun q1 => ?_) (fun q1 => ?_)
    · have hf := ite_t q1 hf
      refine g_aload_n X d_ST_add_86 0 rfl ?_
      refine gf_0_7 X d_ST_add_87 wl_ST_35 ?_
      refine g_iload_n X d_ST_add_90 2 rfl ?_
      refine g_aload_n X d_ST_add_91 0 rfl ?_
      refine g_iload_n X d_ST_add_92 2 rfl ?_
      obtain ⟨r2, σ3, er2, hf⟩ := bd_some hf
      refine ca_ST_firstWithCoreOf X d_ST_add_93 wl_ST_95 ⟨Nat.le_of_ble_eq_true rfl, Nat.le_of_ble_eq_true rfl⟩ (sum8 rfl) er2 ?_
      obtain ⟨b4, hf⟩ := gd_some hf
      obtain ⟨σ5, eσ5, hf⟩ := lt_ex hf
      refine g_iast X d_ST_add_96 kd_7 b4 eσ5 ?_
      refine g_aload_n X d_ST_add_97 0 rfl ?_
      refine g_dup X d_ST_add_98 rfl ?_
      refine gf_0_0 X d_ST_add_99 wl_ST_9 ?_
      refine g_iconst X d_ST_add_102 (v := (nI 1)) rfl ?_
      refine g_iadd X d_ST_add_103 ?_
      obtain ⟨σ6, eσ6, hf⟩ := lt_ex hf
      refine gp_0_0 X d_ST_add_104 wl_ST_9 eσ6 ?_
      refine g_iload_n X d_ST_add_107 2 rfl ?_
      exact g_iret X d_ST_add_108 hr hk9 hf
    · have hf := ite_f q1 hf
      refine g_aload_n X d_ST_add_67 0 rfl ?_
      refine g_iload_n X d_ST_add_68 2 rfl ?_
      refine g_iload X d_ST_add_69 4 rfl ?_
      refine g_aload_n X d_ST_add_71 1 rfl ?_
      refine g_iload X d_ST_add_72 4 rfl ?_
      obtain ⟨r7, σ8, er7, hf⟩ := bd_some hf
      refine ca_DR_codeAt X d_ST_add_74 wl_ST_87 ⟨Nat.le_of_ble_eq_true rfl, Nat.le_of_ble_eq_true rfl⟩ (sum8 rfl) er7 ?_
      obtain ⟨r9, σ10, er9, hf⟩ := bd_some hf
      refine ca_ST_addLetter X d_ST_add_77 wl_ST_91 ⟨Nat.le_of_ble_eq_true rfl, Nat.le_of_ble_eq_true rfl⟩ (sum8 rfl) er9 ?_
      refine g_iinc X d_ST_add_80 (j := 4) (lv' := [(5, .int (x5 + (nI 1))), (0, .ref (Γ.2.2.1 0)), (2, .ref (Γ.2.2.1 78)), (3, .int x3), (4, .int x4)]) rfl rfl (Nat.le_of_ble_eq_true rfl) rfl ?_
      refine g_goto X d_ST_add_83 60 (by decide) ?_
      refine g_sub [1, 2, 3, 4, 0] rfl ?_
      exact ih _ _ _ _ hf
set_option maxRecDepth 10000 in
theorem c_ST_add' {Γ : Gm} {l : Launch} {x1 : Int32} {σ σ' : Sg} {r : Int32} (hf : f_ST_add x1 σ = some (r, σ')) : Ctr Γ l y_ST_add c_ST_add 6 (some .int) 5 109 [.ref (Γ.2.2.1 0), .int x1, .ref (Γ.2.2.1 78)] σ σ' (some (.int r)) := by
  refine Ctr.of (lv := [(0, .ref (Γ.2.2.1 0)), (1, .int x1), (2, .ref (Γ.2.2.1 78))]) (by decide +kernel) (Nat.le_of_ble_eq_true rfl) rfl ?_
  intro p e s m args below meth c X hr hk9
  have X : Cx Γ p (z_rm 5 109) s m args c c_ST_add 6 "CaptionTallies$State" 0 0 := X
  rw [f_ST_add] at hf
  refine g_aload_n X d_ST_add_0 0 rfl ?_
  refine gf_0_0 X d_ST_add_1 wl_ST_9 ?_
  obtain ⟨v1, ev1, hf⟩ := lt_ex hf
  refine g_top ev1 ?_
  refine g_istore_n X d_ST_add_4 rfl (lv' := [(3, .int v1), (0, .ref (Γ.2.2.1 0)), (1, .int x1), (2, .ref (Γ.2.2.1 78))]) (Nat.le_of_ble_eq_true rfl) rfl ?_
  refine g_iload_n X d_ST_add_5 0 rfl ?_
  refine g_bipush X d_ST_add_6 (v := (nI 20)) rfl ?_
  obtain ⟨r2, σ3, er2, hf⟩ := bd_some hf
  refine can_CT_isIndex X d_ST_add_8 wl_ST_67 ⟨Nat.le_of_ble_eq_true rfl, Nat.le_of_ble_eq_true rfl⟩ (sum8 rfl) er2 ?_
  refine g_if_ne X d_ST_add_11 17 (by decide) (fun q4 => ?_) (fun q4 => ?_)
  · have hf := ite_f q4 hf
    refine g_aload_n X d_ST_add_17 1 rfl ?_
    refine gf_0_1 X d_ST_add_18 wl_ST_15 ?_
    refine g_iload_n X d_ST_add_21 0 rfl ?_
    refine g_iconst X d_ST_add_22 (v := (nI 1)) rfl ?_
    obtain ⟨b5, hf⟩ := gd_some hf
    obtain ⟨σ6, eσ6, hf⟩ := lt_ex hf
    refine g_zast X d_ST_add_23 kd_1 b5 rfl eσ6 ?_
    refine g_aload_n X d_ST_add_24 1 rfl ?_
    refine gf_0_2 X d_ST_add_25 wl_ST_19 ?_
    refine g_iload_n X d_ST_add_28 0 rfl ?_
    refine g_iload_n X d_ST_add_29 2 rfl ?_
    obtain ⟨b7, hf⟩ := gd_some hf
    obtain ⟨σ8, eσ8, hf⟩ := lt_ex hf
    refine g_iast X d_ST_add_30 kd_2 b7 eσ8 ?_
    refine g_aload_n X d_ST_add_31 3 rfl ?_
    obtain ⟨r9, σ10, er9, hf⟩ := bd_some hf
    refine ca_DR_length X d_ST_add_32 wl_ST_75 ⟨Nat.le_of_ble_eq_true rfl, Nat.le_of_ble_eq_true rfl⟩ (sum8 rfl) er9 ?_
    refine g_bipush X d_ST_add_35 (v := (nI 60)) rfl ?_
    refine g_mmin X d_ST_add_37 wl_ST_81 wm_min_s wi_MA wm_min_c ⟨Nat.le_of_ble_eq_true rfl, Nat.le_of_ble_eq_true rfl⟩ ?_
    obtain ⟨v11, ev11, hf⟩ := lt_ex hf
    refine g_top ev11 ?_
    refine g_istore X d_ST_add_40 (lv' := [(4, .int v11), (3, .int v1), (0, .ref (Γ.2.2.1 0)), (1, .int x1), (2, .ref (Γ.2.2.1 78))]) (Nat.le_of_ble_eq_true rfl) rfl ?_
    refine g_aload_n X d_ST_add_42 2 rfl ?_
    refine gf_0_4 X d_ST_add_43 wl_ST_26 ?_
    refine g_iload_n X d_ST_add_46 1 rfl ?_
    refine g_iload X d_ST_add_47 0 rfl ?_
    obtain ⟨b12, hf⟩ := gd_some hf
    obtain ⟨σ13, eσ13, hf⟩ := lt_ex hf
    refine g_iast X d_ST_add_49 kd_4 b12 eσ13 ?_
    refine g_aload_n X d_ST_add_50 2 rfl ?_
    refine gf_0_6 X d_ST_add_51 wl_ST_32 ?_
    refine g_iload_n X d_ST_add_54 1 rfl ?_
    refine g_iconst X d_ST_add_55 (v := (nI 0)) rfl ?_
    obtain ⟨b14, hf⟩ := gd_some hf
    obtain ⟨σ15, eσ15, hf⟩ := lt_ex hf
    refine g_iast X d_ST_add_56 kd_6 b14 eσ15 ?_
    refine g_iconst X d_ST_add_57 (v := (nI 0)) rfl ?_
    refine g_istore X d_ST_add_58 (lv' := [(5, .int (nI 0)), (4, .int v11), (3, .int v1), (0, .ref (Γ.2.2.1 0)), (1, .int x1), (2, .ref (Γ.2.2.1 78))]) (Nat.le_of_ble_eq_true rfl) rfl ?_
    refine g_sub [3, 5, 2, 1, 0] rfl ?_
    exact w_ST_add_60 X hr hk9 _ _ _ _ _ hf
  · have hf := ite_t q4 hf
    refine g_bipush X d_ST_add_14 (v := (-3)) rfl ?_
    exact g_iret X d_ST_add_16 hr hk9 hf
section
variable {R : Room} {kc ks : Nat} {Q : State → Prop} {nL : Nat} {cc : ByteArray} {own : String} {pc : Nat} {lv lv' : List (Nat × Value)} {st : List Value}
theorem ca_ST_add {x1 : Int32} (X : Cx Γ p R s m args c cc nL own kc ks) {idx : Nat} (hd : decode cc pc = .ok (.invokevirtual idx, 3)) (hlk : Cond.methodLink own idx y_ST_add ∈ lw_gt) (hR : 5 + 1 ≤ R.frames ∧ 8 + (6 + 11) + 109 ≤ R.locals) (hw : (st.map fun v => v.category).sum ≤ 8) {σ σ' : Sg} {r : Int32} (hf : f_ST_add x1 σ = some (r, σ')) (k : G Γ p l e R s m args below meth c kc ks Q nL (pc + 3) lv (.int r :: st) σ') : G Γ p l e R s m args below meth c kc ks Q nL pc lv (.ref (Γ.2.2.1 78) :: .int x1 :: .ref (Γ.2.2.1 0) :: st) σ :=
  g_callV (As := [.int x1, .ref (Γ.2.2.1 78)]) (rest := st) X hd (c_ST_add' hf) co_ST_add hlk wn_ST_add wse_ST_add (by decide) kd_0 rfl hR rfl rfl hw k
end
set_option maxRecDepth 10000 in
theorem c_ST_captionsSoFar' {Γ : Gm} {l : Launch} {σ σ' : Sg} {r : Int32} (hf : f_ST_captionsSoFar σ = some (r, σ')) : Ctr Γ l y_ST_captionsSoFar c_ST_captionsSoFar 1 (some .int) 0 0 [.ref (Γ.2.2.1 0)] σ σ' (some (.int r)) := by
  refine Ctr.of (lv := [(0, .ref (Γ.2.2.1 0))]) (by decide +kernel) (Nat.le_of_ble_eq_true rfl) rfl ?_
  intro p e s m args below meth c X hr hk9
  have X : Cx Γ p (z_rm 0 0) s m args c c_ST_captionsSoFar 1 "CaptionTallies$State" 0 0 := X
  rw [f_ST_captionsSoFar] at hf
  refine g_aload_n X d_ST_captionsSoFar_0 0 rfl ?_
  refine gf_0_0 X d_ST_captionsSoFar_1 wl_ST_9 ?_
  exact g_iret X d_ST_captionsSoFar_4 hr hk9 hf
section
variable {R : Room} {kc ks : Nat} {Q : State → Prop} {nL : Nat} {cc : ByteArray} {own : String} {pc : Nat} {lv lv' : List (Nat × Value)} {st : List Value}
theorem ca_ST_captionsSoFar (X : Cx Γ p R s m args c cc nL own kc ks) {idx : Nat} (hd : decode cc pc = .ok (.invokevirtual idx, 3)) (hlk : Cond.methodLink own idx y_ST_captionsSoFar ∈ lw_gt) (hR : 0 + 1 ≤ R.frames ∧ 8 + (1 + 11) + 0 ≤ R.locals) (hw : (st.map fun v => v.category).sum ≤ 8) {σ σ' : Sg} {r : Int32} (hf : f_ST_captionsSoFar σ = some (r, σ')) (k : G Γ p l e R s m args below meth c kc ks Q nL (pc + 3) lv (.int r :: st) σ') : G Γ p l e R s m args below meth c kc ks Q nL pc lv (.ref (Γ.2.2.1 0) :: st) σ :=
  g_callV (As := []) (rest := st) X hd (c_ST_captionsSoFar' hf) co_ST_captionsSoFar hlk wn_ST_captionsSoFar wse_ST_captionsSoFar (by decide) kd_0 rfl hR rfl rfl hw k
end
set_option maxRecDepth 10000 in
theorem c_CT_submit' {Γ : Gm} {l : Launch} {x1 : Int32} {σ σ' : Sg} {r : Int32} (hf : f_CT_submit x1 σ = some (r, σ')) : Ctr Γ l y_CT_submit c_CT_submit 3 (some .int) 6 134 [.ref (Γ.2.2.1 111), .int x1] σ σ' (some (.int r)) := by
  refine Ctr.of (lv := [(0, .ref (Γ.2.2.1 111)), (1, .int x1)]) (by decide +kernel) (Nat.le_of_ble_eq_true rfl) rfl ?_
  intro p e s m args below meth c X hr hk9
  have X : Cx Γ p (z_rm 6 134) s m args c c_CT_submit 3 "CaptionTallies" 0 0 := X
  rw [f_CT_submit] at hf
  refine g_iload_n X d_CT_submit_0 1 rfl ?_
  refine g_bipush X d_CT_submit_1 (v := (nI 10)) rfl ?_
  obtain ⟨r1, σ2, er1, hf⟩ := bd_some hf
  refine ca_CT_isIndex X d_CT_submit_3 wl_CT_86 ⟨Nat.le_of_ble_eq_true rfl, Nat.le_of_ble_eq_true rfl⟩ (sum8 rfl) er1 ?_
  refine g_if_ne X d_CT_submit_6 11 (by decide) (fun q3 => ?_) (fun q3 => ?_)
  · have hf := ite_f q3 hf
    refine g_aload_n X d_CT_submit_11 0 rfl ?_
    refine gf_111_0 X d_CT_submit_12 wl_CT_10 ?_
    obtain ⟨r4, σ5, er4, hf⟩ := bd_some hf
    refine ca_DR_firstFault X d_CT_submit_15 wl_CT_90 ⟨Nat.le_of_ble_eq_true rfl, Nat.le_of_ble_eq_true rfl⟩ (sum8 rfl) er4 ?_
    refine g_istore_n X d_CT_submit_18 rfl (lv' := [(2, .int r4), (0, .ref (Γ.2.2.1 111)), (1, .int x1)]) (Nat.le_of_ble_eq_true rfl) rfl ?_
    refine g_iload_n X d_CT_submit_19 0 rfl ?_
    refine g_iconst X d_CT_submit_20 (v := (-1)) rfl ?_
    refine g_ic_eq X d_CT_submit_21 29 (by decide) (fun q6 => ?_) (fun q6 => ?_)
    · have hf := ite_t q6 hf
      refine g_aload_n X d_CT_submit_29 1 rfl ?_
      refine gf_111_1 X d_CT_submit_30 wl_CT_19 ?_
      obtain ⟨r7, σ8, er7, hf⟩ := bd_some hf
      refine ca_ST_captionsSoFar X d_CT_submit_33 wl_CT_94 ⟨Nat.le_of_ble_eq_true rfl, Nat.le_of_ble_eq_true rfl⟩ (sum8 rfl) er7 ?_
      refine g_bipush X d_CT_submit_36 (v := (nI 20)) rfl ?_
      refine g_ic_lt X d_CT_submit_38 44 (by decide) (fun q9 => ?_) (fun q9 => ?_)
      · have hf := ite_t q9 hf
        refine g_aload_n X d_CT_submit_44 1 rfl ?_
        refine gf_111_2 X d_CT_submit_45 wl_CT_26 ?_
        refine g_aload_n X d_CT_submit_48 1 rfl ?_
        refine gf_111_1 X d_CT_submit_49 wl_CT_19 ?_
        obtain ⟨r10, σ11, er10, hf⟩ := bd_some hf
        refine ca_HI_record X d_CT_submit_52 wl_CT_97 ⟨Nat.le_of_ble_eq_true rfl, Nat.le_of_ble_eq_true rfl⟩ (sum8 rfl) er10 ?_
        refine g_aload_n X d_CT_submit_55 1 rfl ?_
        refine gf_111_1 X d_CT_submit_56 wl_CT_19 ?_
        refine g_iload_n X d_CT_submit_59 2 rfl ?_
        refine g_aload_n X d_CT_submit_60 1 rfl ?_
        refine gf_111_0 X d_CT_submit_61 wl_CT_10 ?_
        obtain ⟨r12, σ13, er12, hf⟩ := bd_some hf
        refine ca_ST_add X d_CT_submit_64 wl_CT_101 ⟨Nat.le_of_ble_eq_true rfl, Nat.le_of_ble_eq_true rfl⟩ (sum8 rfl) er12 ?_
        exact g_iret X d_CT_submit_67 hr hk9 hf
      · have hf := ite_f q9 hf
        refine g_bipush X d_CT_submit_41 (v := (-3)) rfl ?_
        exact g_iret X d_CT_submit_43 hr hk9 hf
    · have hf := ite_f q6 hf
      refine g_bipush X d_CT_submit_24 (v := (-100)) rfl ?_
      refine g_iload_n X d_CT_submit_26 0 rfl ?_
      refine g_isub X d_CT_submit_27 ?_
      exact g_iret X d_CT_submit_28 hr hk9 hf
  · have hf := ite_t q3 hf
    refine g_iconst X d_CT_submit_9 (v := (-1)) rfl ?_
    exact g_iret X d_CT_submit_10 hr hk9 hf
section
variable {R : Room} {kc ks : Nat} {Q : State → Prop} {nL : Nat} {cc : ByteArray} {own : String} {pc : Nat} {lv lv' : List (Nat × Value)} {st : List Value}
theorem ca_CT_submit {x1 : Int32} (X : Cx Γ p R s m args c cc nL own kc ks) {idx : Nat} (hd : decode cc pc = .ok (.invokevirtual idx, 3)) (hlk : Cond.methodLink own idx y_CT_submit ∈ lw_gt) (hR : 6 + 1 ≤ R.frames ∧ 8 + (3 + 11) + 134 ≤ R.locals) (hw : (st.map fun v => v.category).sum ≤ 8) {σ σ' : Sg} {r : Int32} (hf : f_CT_submit x1 σ = some (r, σ')) (k : G Γ p l e R s m args below meth c kc ks Q nL (pc + 3) lv (.int r :: st) σ') : G Γ p l e R s m args below meth c kc ks Q nL pc lv (.int x1 :: .ref (Γ.2.2.1 111) :: st) σ :=
  g_callV (As := [.int x1]) (rest := st) X hd (c_CT_submit' hf) co_CT_submit hlk wn_CT_submit wse_CT_submit (by decide) kd_111 rfl hR rfl rfl hw k
end
set_option maxRecDepth 10000 in
theorem c_ST_isIn' {Γ : Gm} {l : Launch} {x1 : Int32} {σ σ' : Sg} {r : Int32} (hf : f_ST_isIn x1 σ = some (r, σ')) : Ctr Γ l y_ST_isIn c_ST_isIn 2 (some .boolean) 1 21 [.ref (Γ.2.2.1 0), .int x1] σ σ' (some (.int r)) := by
  refine Ctr.of (lv := [(0, .ref (Γ.2.2.1 0)), (1, .int x1)]) (by decide +kernel) (Nat.le_of_ble_eq_true rfl) rfl ?_
  intro p e s m args below meth c X hr hk9
  have X : Cx Γ p (z_rm 1 21) s m args c c_ST_isIn 2 "CaptionTallies$State" 0 0 := X
  rw [f_ST_isIn] at hf
  refine g_iload_n X d_ST_isIn_0 1 rfl ?_
  refine g_bipush X d_ST_isIn_1 (v := (nI 20)) rfl ?_
  obtain ⟨r1, σ2, er1, hf⟩ := bd_some hf
  refine can_CT_isIndex X d_ST_isIn_3 wl_ST_67 ⟨Nat.le_of_ble_eq_true rfl, Nat.le_of_ble_eq_true rfl⟩ (sum8 rfl) er1 ?_
  refine g_if_eq X d_ST_isIn_6 22 (by decide) (fun q3 => ?_) (fun q3 => ?_)
  · have hf := ite_t q3 hf
    refine g_iconst X d_ST_isIn_22 (v := (nI 0)) rfl ?_
    exact g_zret X d_ST_isIn_23 hr hk9 rfl hf
  · have hf := ite_f q3 hf
    refine g_aload_n X d_ST_isIn_9 0 rfl ?_
    refine gf_0_1 X d_ST_isIn_10 wl_ST_15 ?_
    refine g_iload_n X d_ST_isIn_13 1 rfl ?_
    obtain ⟨b4, hf⟩ := gd_some hf
    refine g_zald X d_ST_isIn_14 kd_1 b4 ?_
    refine g_if_eq X d_ST_isIn_15 22 (by decide) (fun q5 => ?_) (fun q5 => ?_)
    · have hf := ite_t q5 hf
      refine g_iconst X d_ST_isIn_22 (v := (nI 0)) rfl ?_
      exact g_zret X d_ST_isIn_23 hr hk9 rfl hf
    · have hf := ite_f q5 hf
      refine g_iconst X d_ST_isIn_18 (v := (nI 1)) rfl ?_
      refine g_goto X d_ST_isIn_19 23 (by decide) ?_
      exact g_zret X d_ST_isIn_23 hr hk9 rfl hf
section
variable {R : Room} {kc ks : Nat} {Q : State → Prop} {nL : Nat} {cc : ByteArray} {own : String} {pc : Nat} {lv lv' : List (Nat × Value)} {st : List Value}
theorem ca_ST_isIn {x1 : Int32} (X : Cx Γ p R s m args c cc nL own kc ks) {idx : Nat} (hd : decode cc pc = .ok (.invokevirtual idx, 3)) (hlk : Cond.methodLink own idx y_ST_isIn ∈ lw_gt) (hR : 1 + 1 ≤ R.frames ∧ 8 + (2 + 11) + 21 ≤ R.locals) (hw : (st.map fun v => v.category).sum ≤ 8) {σ σ' : Sg} {r : Int32} (hf : f_ST_isIn x1 σ = some (r, σ')) (k : G Γ p l e R s m args below meth c kc ks Q nL (pc + 3) lv (.int r :: st) σ') : G Γ p l e R s m args below meth c kc ks Q nL pc lv (.int x1 :: .ref (Γ.2.2.1 0) :: st) σ :=
  g_callV (As := [.int x1]) (rest := st) X hd (c_ST_isIn' hf) co_ST_isIn hlk wn_ST_isIn wse_ST_isIn (by decide) kd_0 rfl hR rfl rfl hw k
end
set_option maxRecDepth 10000 in
theorem w_ST_captionsIn_4 {r : Int32} {σ' : Sg} (X : Cx Γ p (z_rm 2 42) s m args c c_ST_captionsIn 3 "CaptionTallies$State" 0 0) (hr : meth.sig.returnType = (some .int)) (hk9 : meth.locks = false) : ∀ (n9 : Nat) (x1 : Int32) (x2 : Int32) (σ : Sg), f_ST_captionsIn_4 n9 x1 x2 σ = some (r, σ') → G Γ p l e (z_rm 2 42) s m args below meth c 0 0 (MQ below (Qx Γ (some (.int r)) σ') args s 0 0 (fun q : Nat => Γ.2.2.2 ≤ q)) 3 4 [(0, .ref (Γ.2.2.1 0)), (1, .int x1), (2, .int x2)] [] σ := by
  intro n9
  induction n9 with
  | zero => intro x1 x2 σ hf; cases hf
  | succ n9 ih =>
    intro x1 x2 σ hf
    rw [f_ST_captionsIn_4] at hf
    refine g_iload_n X d_ST_captionsIn_4 2 rfl ?_
    refine g_bipush X d_ST_captionsIn_5 (v := (nI 20)) rfl ?_
    refine g_ic_ge X d_ST_captionsIn_7 27 (by decide) (fun q1 => ?_) (fun q1 => ?_)
    · have hf := ite_t q1 hf
      refine g_iload_n X d_ST_captionsIn_27 1 rfl ?_
      exact g_iret X d_ST_captionsIn_28 hr hk9 hf
    · have hf := ite_f q1 hf
      refine g_aload_n X d_ST_captionsIn_10 0 rfl ?_
      refine g_iload_n X d_ST_captionsIn_11 2 rfl ?_
      obtain ⟨r2, σ3, er2, hf⟩ := bd_some hf
      refine ca_ST_isIn X d_ST_captionsIn_12 wl_ST_71 ⟨Nat.le_of_ble_eq_true rfl, Nat.le_of_ble_eq_true rfl⟩ (sum8 rfl) er2 ?_
      refine g_if_eq X d_ST_captionsIn_15 21 (by decide) (fun q4 => ?_) (fun q4 => ?_)
      · have hf := ite_t q4 hf
        refine g_iinc X d_ST_captionsIn_21 (j := 2) (lv' := [(2, .int (x2 + (nI 1))), (0, .ref (Γ.2.2.1 0)), (1, .int x1)]) rfl rfl (Nat.le_of_ble_eq_true rfl) rfl ?_
        refine g_goto X d_ST_captionsIn_24 4 (by decide) ?_
        refine g_sub [1, 2, 0] rfl ?_
        exact ih _ _ _ hf
      · have hf := ite_f q4 hf
        refine g_iinc X d_ST_captionsIn_18 (j := 1) (lv' := [(1, .int (x1 + (nI 1))), (0, .ref (Γ.2.2.1 0)), (2, .int x2)]) rfl rfl (Nat.le_of_ble_eq_true rfl) rfl ?_
        refine g_iinc X d_ST_captionsIn_21 (j := 2) (lv' := [(2, .int (x2 + (nI 1))), (1, .int (x1 + (nI 1))), (0, .ref (Γ.2.2.1 0))]) rfl rfl (Nat.le_of_ble_eq_true rfl) rfl ?_
        refine g_goto X d_ST_captionsIn_24 4 (by decide) ?_
        refine g_sub [2, 1, 0] rfl ?_
        exact ih _ _ _ hf
set_option maxRecDepth 10000 in
theorem c_ST_captionsIn' {Γ : Gm} {l : Launch} {σ σ' : Sg} {r : Int32} (hf : f_ST_captionsIn σ = some (r, σ')) : Ctr Γ l y_ST_captionsIn c_ST_captionsIn 3 (some .int) 2 42 [.ref (Γ.2.2.1 0)] σ σ' (some (.int r)) := by
  refine Ctr.of (lv := [(0, .ref (Γ.2.2.1 0))]) (by decide +kernel) (Nat.le_of_ble_eq_true rfl) rfl ?_
  intro p e s m args below meth c X hr hk9
  have X : Cx Γ p (z_rm 2 42) s m args c c_ST_captionsIn 3 "CaptionTallies$State" 0 0 := X
  rw [f_ST_captionsIn] at hf
  refine g_iconst X d_ST_captionsIn_0 (v := (nI 0)) rfl ?_
  refine g_istore_n X d_ST_captionsIn_1 rfl (lv' := [(1, .int (nI 0)), (0, .ref (Γ.2.2.1 0))]) (Nat.le_of_ble_eq_true rfl) rfl ?_
  refine g_iconst X d_ST_captionsIn_2 (v := (nI 0)) rfl ?_
  refine g_istore_n X d_ST_captionsIn_3 rfl (lv' := [(2, .int (nI 0)), (1, .int (nI 0)), (0, .ref (Γ.2.2.1 0))]) (Nat.le_of_ble_eq_true rfl) rfl ?_
  refine g_sub [2, 1, 0] rfl ?_
  exact w_ST_captionsIn_4 X hr hk9 _ _ _ _ hf
section
variable {R : Room} {kc ks : Nat} {Q : State → Prop} {nL : Nat} {cc : ByteArray} {own : String} {pc : Nat} {lv lv' : List (Nat × Value)} {st : List Value}
theorem ca_ST_captionsIn (X : Cx Γ p R s m args c cc nL own kc ks) {idx : Nat} (hd : decode cc pc = .ok (.invokevirtual idx, 3)) (hlk : Cond.methodLink own idx y_ST_captionsIn ∈ lw_gt) (hR : 2 + 1 ≤ R.frames ∧ 8 + (3 + 11) + 42 ≤ R.locals) (hw : (st.map fun v => v.category).sum ≤ 8) {σ σ' : Sg} {r : Int32} (hf : f_ST_captionsIn σ = some (r, σ')) (k : G Γ p l e R s m args below meth c kc ks Q nL (pc + 3) lv (.int r :: st) σ') : G Γ p l e R s m args below meth c kc ks Q nL pc lv (.ref (Γ.2.2.1 0) :: st) σ :=
  g_callV (As := []) (rest := st) X hd (c_ST_captionsIn' hf) co_ST_captionsIn hlk wn_ST_captionsIn wse_ST_captionsIn (by decide) kd_0 rfl hR rfl rfl hw k
end
set_option maxRecDepth 10000 in
theorem c_ST_takeOut' {Γ : Gm} {l : Launch} {x1 : Int32} {σ σ' : Sg} {r : Int32} (hf : f_ST_takeOut x1 σ = some (r, σ')) : Ctr Γ l y_ST_takeOut c_ST_takeOut 2 none 1 21 [.ref (Γ.2.2.1 0), .int x1] σ σ' none := by
  refine Ctr.of (lv := [(0, .ref (Γ.2.2.1 0)), (1, .int x1)]) (by decide +kernel) (Nat.le_of_ble_eq_true rfl) rfl ?_
  intro p e s m args below meth c X hr hk9
  have X : Cx Γ p (z_rm 1 21) s m args c c_ST_takeOut 2 "CaptionTallies$State" 0 0 := X
  rw [f_ST_takeOut] at hf
  refine g_iload_n X d_ST_takeOut_0 1 rfl ?_
  refine g_bipush X d_ST_takeOut_1 (v := (nI 20)) rfl ?_
  obtain ⟨r1, σ2, er1, hf⟩ := bd_some hf
  refine can_CT_isIndex X d_ST_takeOut_3 wl_ST_67 ⟨Nat.le_of_ble_eq_true rfl, Nat.le_of_ble_eq_true rfl⟩ (sum8 rfl) er1 ?_
  refine g_if_eq X d_ST_takeOut_6 16 (by decide) (fun q3 => ?_) (fun q3 => ?_)
  · have hf := ite_t q3 hf
    exact g_vret X d_ST_takeOut_16 hr hk9 hf
  · have hf := ite_f q3 hf
    refine g_aload_n X d_ST_takeOut_9 0 rfl ?_
    refine gf_0_1 X d_ST_takeOut_10 wl_ST_15 ?_
    refine g_iload_n X d_ST_takeOut_13 1 rfl ?_
    refine g_iconst X d_ST_takeOut_14 (v := (nI 0)) rfl ?_
    obtain ⟨b4, hf⟩ := gd_some hf
    obtain ⟨σ5, eσ5, hf⟩ := lt_ex hf
    refine g_zast X d_ST_takeOut_15 kd_1 b4 rfl eσ5 ?_
    exact g_vret X d_ST_takeOut_16 hr hk9 hf
section
variable {R : Room} {kc ks : Nat} {Q : State → Prop} {nL : Nat} {cc : ByteArray} {own : String} {pc : Nat} {lv lv' : List (Nat × Value)} {st : List Value}
theorem ca_ST_takeOut {x1 : Int32} (X : Cx Γ p R s m args c cc nL own kc ks) {idx : Nat} (hd : decode cc pc = .ok (.invokevirtual idx, 3)) (hlk : Cond.methodLink own idx y_ST_takeOut ∈ lw_gt) (hR : 1 + 1 ≤ R.frames ∧ 8 + (2 + 11) + 21 ≤ R.locals) (hw : (st.map fun v => v.category).sum ≤ 8) {σ σ' : Sg} {r : Int32} (hf : f_ST_takeOut x1 σ = some (r, σ')) (k : G Γ p l e R s m args below meth c kc ks Q nL (pc + 3) lv (st) σ') : G Γ p l e R s m args below meth c kc ks Q nL pc lv (.int x1 :: .ref (Γ.2.2.1 0) :: st) σ :=
  g_callV (As := [.int x1]) (rest := st) X hd (c_ST_takeOut' hf) co_ST_takeOut hlk wn_ST_takeOut wse_ST_takeOut (by decide) kd_0 rfl hR rfl rfl hw k
end
set_option maxRecDepth 10000 in
theorem c_CT_withdraw' {Γ : Gm} {l : Launch} {x1 : Int32} {σ σ' : Sg} {r : Int32} (hf : f_CT_withdraw x1 σ = some (r, σ')) : Ctr Γ l y_CT_withdraw c_CT_withdraw 2 (some .int) 4 81 [.ref (Γ.2.2.1 111), .int x1] σ σ' (some (.int r)) := by
  refine Ctr.of (lv := [(0, .ref (Γ.2.2.1 111)), (1, .int x1)]) (by decide +kernel) (Nat.le_of_ble_eq_true rfl) rfl ?_
  intro p e s m args below meth c X hr hk9
  have X : Cx Γ p (z_rm 4 81) s m args c c_CT_withdraw 2 "CaptionTallies" 0 0 := X
  rw [f_CT_withdraw] at hf
  refine g_aload_n X d_CT_withdraw_0 0 rfl ?_
  refine gf_111_1 X d_CT_withdraw_1 wl_CT_19 ?_
  refine g_iload_n X d_CT_withdraw_4 1 rfl ?_
  obtain ⟨r1, σ2, er1, hf⟩ := bd_some hf
  refine ca_ST_isIn X d_CT_withdraw_5 wl_CT_105 ⟨Nat.le_of_ble_eq_true rfl, Nat.le_of_ble_eq_true rfl⟩ (sum8 rfl) er1 ?_
  refine g_if_ne X d_CT_withdraw_8 13 (by decide) (fun q3 => ?_) (fun q3 => ?_)
  · have hf := ite_f q3 hf
    refine g_aload_n X d_CT_withdraw_13 0 rfl ?_
    refine gf_111_2 X d_CT_withdraw_14 wl_CT_26 ?_
    refine g_aload_n X d_CT_withdraw_17 0 rfl ?_
    refine gf_111_1 X d_CT_withdraw_18 wl_CT_19 ?_
    obtain ⟨r4, σ5, er4, hf⟩ := bd_some hf
    refine ca_HI_record X d_CT_withdraw_21 wl_CT_97 ⟨Nat.le_of_ble_eq_true rfl, Nat.le_of_ble_eq_true rfl⟩ (sum8 rfl) er4 ?_
    refine g_aload_n X d_CT_withdraw_24 0 rfl ?_
    refine gf_111_1 X d_CT_withdraw_25 wl_CT_19 ?_
    refine g_iload_n X d_CT_withdraw_28 1 rfl ?_
    obtain ⟨r6, σ7, er6, hf⟩ := bd_some hf
    refine ca_ST_takeOut X d_CT_withdraw_29 wl_CT_109 ⟨Nat.le_of_ble_eq_true rfl, Nat.le_of_ble_eq_true rfl⟩ (sum8 rfl) er6 ?_
    refine g_aload_n X d_CT_withdraw_32 0 rfl ?_
    refine gf_111_1 X d_CT_withdraw_33 wl_CT_19 ?_
    obtain ⟨r8, σ9, er8, hf⟩ := bd_some hf
    refine ca_ST_captionsIn X d_CT_withdraw_36 wl_CT_113 ⟨Nat.le_of_ble_eq_true rfl, Nat.le_of_ble_eq_true rfl⟩ (sum8 rfl) er8 ?_
    exact g_iret X d_CT_withdraw_39 hr hk9 hf
  · have hf := ite_t q3 hf
    refine g_iconst X d_CT_withdraw_11 (v := (-1)) rfl ?_
    exact g_iret X d_CT_withdraw_12 hr hk9 hf
section
variable {R : Room} {kc ks : Nat} {Q : State → Prop} {nL : Nat} {cc : ByteArray} {own : String} {pc : Nat} {lv lv' : List (Nat × Value)} {st : List Value}
theorem ca_CT_withdraw {x1 : Int32} (X : Cx Γ p R s m args c cc nL own kc ks) {idx : Nat} (hd : decode cc pc = .ok (.invokevirtual idx, 3)) (hlk : Cond.methodLink own idx y_CT_withdraw ∈ lw_gt) (hR : 4 + 1 ≤ R.frames ∧ 8 + (2 + 11) + 81 ≤ R.locals) (hw : (st.map fun v => v.category).sum ≤ 8) {σ σ' : Sg} {r : Int32} (hf : f_CT_withdraw x1 σ = some (r, σ')) (k : G Γ p l e R s m args below meth c kc ks Q nL (pc + 3) lv (.int r :: st) σ') : G Γ p l e R s m args below meth c kc ks Q nL pc lv (.int x1 :: .ref (Γ.2.2.1 111) :: st) σ :=
  g_callV (As := [.int x1]) (rest := st) X hd (c_CT_withdraw' hf) co_CT_withdraw hlk wn_CT_withdraw wse_CT_withdraw (by decide) kd_111 rfl hR rfl rfl hw k
end
set_option maxRecDepth 10000 in
theorem w_AR_fill_5 {a0 n0 : Nat} {r : Int32} {σ' : Sg} (X : Cx Γ p (z_rm 0 0) s m args c c_AR_fill 4 "java/util/Arrays" 0 0) (hr : meth.sig.returnType = none) (hk9 : meth.locks = false) (hk0 : kd a0 = (1, n0)) : ∀ (n9 : Nat) (x1 : Int32) (x2 : Int32) (x3 : Int32) (σ : Sg), f_AR_fill_5 a0 n0 n9 x1 x2 x3 σ = some (r, σ') → G Γ p l e (z_rm 0 0) s m args below meth c 0 0 (MQ below (Qx Γ none σ') args s 0 0 (fun q : Nat => Γ.2.2.2 ≤ q)) 4 5 [(0, .ref (Γ.2.2.1 a0)), (1, .int x1), (2, .int x2), (3, .int x3)] [] σ := by
  intro n9
  induction n9 with
  | zero => intro x1 x2 x3 σ hf; cases hf
  | succ n9 ih =>
    intro x1 x2 x3 σ hf
    rw [f_AR_fill_5] at hf
    refine g_iload_n X d_AR_fill_5 2 rfl ?_
    refine g_iload_n X d_AR_fill_6 3 rfl ?_
    refine g_ic_ge X d_AR_fill_7 20 (by decide) (fun q1 => ?_) (fun q1 => ?_)
    · have hf := ite_t q1 hf
      exact g_vret X d_AR_fill_20 hr hk9 hf
    · have hf := ite_f q1 hf
      refine g_aload_n X d_AR_fill_10 0 rfl ?_
      refine g_iload_n X d_AR_fill_11 2 rfl ?_
      refine g_iload_n X d_AR_fill_12 1 rfl ?_
      obtain ⟨b2, hf⟩ := gd_some hf
      obtain ⟨σ3, eσ3, hf⟩ := lt_ex hf
      refine g_iast X d_AR_fill_13 hk0 b2 eσ3 ?_
      refine g_iinc X d_AR_fill_14 (j := 2) (lv' := [(2, .int (x2 + (nI 1))), (0, .ref (Γ.2.2.1 a0)), (1, .int x1), (3, .int x3)]) rfl rfl (Nat.le_of_ble_eq_true rfl) rfl ?_
      refine g_goto X d_AR_fill_17 5 (by decide) ?_
      refine g_sub [1, 2, 0, 3] rfl ?_
      exact ih _ _ _ _ hf
set_option maxRecDepth 10000 in
theorem c_AR_fill' {Γ : Gm} {l : Launch} {a0 n0 : Nat} {x1 : Int32} {σ σ' : Sg} {r : Int32} (hk0 : kd a0 = (1, n0)) (hf : f_AR_fill a0 n0 x1 σ = some (r, σ')) : Ctr Γ l y_AR_fill c_AR_fill 4 none 0 0 [.ref (Γ.2.2.1 a0), .int x1] σ σ' none := by
  refine Ctr.of (lv := [(0, .ref (Γ.2.2.1 a0)), (1, .int x1)]) (by decide +kernel) (Nat.le_of_ble_eq_true rfl) rfl ?_
  intro p e s m args below meth c X hr hk9
  have X : Cx Γ p (z_rm 0 0) s m args c c_AR_fill 4 "java/util/Arrays" 0 0 := X
  rw [f_AR_fill] at hf
  refine g_iconst X d_AR_fill_0 (v := (nI 0)) rfl ?_
  refine g_istore_n X d_AR_fill_1 rfl (lv' := [(2, .int (nI 0)), (0, .ref (Γ.2.2.1 a0)), (1, .int x1)]) (Nat.le_of_ble_eq_true rfl) rfl ?_
  refine g_aload_n X d_AR_fill_2 1 rfl ?_
  refine g_alen X d_AR_fill_3 (v := (nI n0)) hk0 rfl ?_
  refine g_istore_n X d_AR_fill_4 rfl (lv' := [(3, .int (nI n0)), (2, .int (nI 0)), (0, .ref (Γ.2.2.1 a0)), (1, .int x1)]) (Nat.le_of_ble_eq_true rfl) rfl ?_
  refine g_sub [2, 3, 1, 0] rfl ?_
  exact w_AR_fill_5 X hr hk9 hk0 _ _ _ _ _ hf
section
variable {R : Room} {kc ks : Nat} {Q : State → Prop} {nL : Nat} {cc : ByteArray} {own : String} {pc : Nat} {lv lv' : List (Nat × Value)} {st : List Value}
theorem ca_AR_fill {a0 n0 : Nat} {x1 : Int32} (X : Cx Γ p R s m args c cc nL own kc ks) {idx : Nat} (hd : decode cc pc = .ok (.invokestatic idx, 3)) (hlk : Cond.methodLink own idx y_AR_fill ∈ lw_gt) (hR : 0 + 1 ≤ R.frames ∧ 8 + (4 + 11) + 0 ≤ R.locals) (hw : (st.map fun v => v.category).sum ≤ 8) (hk0 : kd a0 = (1, n0)) {σ σ' : Sg} {r : Int32} (hf : f_AR_fill a0 n0 x1 σ = some (r, σ')) (k : G Γ p l e R s m args below meth c kc ks Q nL (pc + 3) lv (st) σ') : G Γ p l e R s m args below meth c kc ks Q nL pc lv (.int x1 :: .ref (Γ.2.2.1 a0) :: st) σ :=
  g_callS (As := [.ref (Γ.2.2.1 a0), .int x1]) (rest := st) X hd (c_AR_fill' hk0 hf) co_AR_fill hlk wn_AR_fill hR rfl rfl hw k
theorem can_AR_fill {a0 n0 : Nat} {x1 : Int32} (X : Cx Γ p R s m args c cc nL own kc ks) {idx : Nat} (hd : decode cc pc = .ok (.invokestatic idx, 3)) (hlk : (own, idx, y_AR_fill) ∈ z_nests) (hR : 0 + 1 ≤ R.frames ∧ 8 + (4 + 11) + 0 ≤ R.locals) (hw : (st.map fun v => v.category).sum ≤ 8) (hk0 : kd a0 = (1, n0)) {σ σ' : Sg} {r : Int32} (hf : f_AR_fill a0 n0 x1 σ = some (r, σ')) (k : G Γ p l e R s m args below meth c kc ks Q nL (pc + 3) lv (st) σ') : G Γ p l e R s m args below meth c kc ks Q nL pc lv (.int x1 :: .ref (Γ.2.2.1 a0) :: st) σ :=
  g_callSN (As := [.ref (Γ.2.2.1 a0), .int x1]) (rest := st) X hd (c_AR_fill' hk0 hf) co_AR_fill hlk wn_AR_fill hR rfl rfl hw k
end
set_option maxRecDepth 10000 in
theorem c_ST_areAlike' {Γ : Gm} {l : Launch} {x1 : Int32} {x2 : Int32} {σ σ' : Sg} {r : Int32} (hf : f_ST_areAlike x1 x2 σ = some (r, σ')) : Ctr Γ l y_ST_areAlike c_ST_areAlike 3 (some .boolean) 1 21 [.ref (Γ.2.2.1 0), .int x1, .int x2] σ σ' (some (.int r)) := by
  refine Ctr.of (lv := [(0, .ref (Γ.2.2.1 0)), (1, .int x1), (2, .int x2)]) (by decide +kernel) (Nat.le_of_ble_eq_true rfl) rfl ?_
  intro p e s m args below meth c X hr hk9
  have X : Cx Γ p (z_rm 1 21) s m args c c_ST_areAlike 3 "CaptionTallies$State" 0 0 := X
  rw [f_ST_areAlike] at hf
  refine g_aload_n X d_ST_areAlike_0 0 rfl ?_
  refine gf_0_7 X d_ST_areAlike_1 wl_ST_35 ?_
  refine g_iload_n X d_ST_areAlike_4 1 rfl ?_
  obtain ⟨r1, σ2, er1, hf⟩ := bd_some hf
  refine can_CT_at X d_ST_areAlike_5 wl_ST_117 ⟨Nat.le_of_ble_eq_true rfl, Nat.le_of_ble_eq_true rfl⟩ (sum8 rfl) kd_7 er1 ?_
  refine g_aload_n X d_ST_areAlike_8 0 rfl ?_
  refine gf_0_7 X d_ST_areAlike_9 wl_ST_35 ?_
  refine g_iload_n X d_ST_areAlike_12 2 rfl ?_
  obtain ⟨r3, σ4, er3, hf⟩ := bd_some hf
  refine can_CT_at X d_ST_areAlike_13 wl_ST_117 ⟨Nat.le_of_ble_eq_true rfl, Nat.le_of_ble_eq_true rfl⟩ (sum8 rfl) kd_7 er3 ?_
  refine g_ic_ne X d_ST_areAlike_16 23 (by decide) (fun q5 => ?_) (fun q5 => ?_)
  · have hf := ite_f q5 hf
    refine g_iconst X d_ST_areAlike_23 (v := (nI 0)) rfl ?_
    exact g_zret X d_ST_areAlike_24 hr hk9 rfl hf
  · have hf := ite_t q5 hf
    refine g_iconst X d_ST_areAlike_19 (v := (nI 1)) rfl ?_
    refine g_goto X d_ST_areAlike_20 24 (by decide) ?_
    exact g_zret X d_ST_areAlike_24 hr hk9 rfl hf
section
variable {R : Room} {kc ks : Nat} {Q : State → Prop} {nL : Nat} {cc : ByteArray} {own : String} {pc : Nat} {lv lv' : List (Nat × Value)} {st : List Value}
theorem ca_ST_areAlike {x1 : Int32} {x2 : Int32} (X : Cx Γ p R s m args c cc nL own kc ks) {idx : Nat} (hd : decode cc pc = .ok (.invokevirtual idx, 3)) (hlk : Cond.methodLink own idx y_ST_areAlike ∈ lw_gt) (hR : 1 + 1 ≤ R.frames ∧ 8 + (3 + 11) + 21 ≤ R.locals) (hw : (st.map fun v => v.category).sum ≤ 8) {σ σ' : Sg} {r : Int32} (hf : f_ST_areAlike x1 x2 σ = some (r, σ')) (k : G Γ p l e R s m args below meth c kc ks Q nL (pc + 3) lv (.int r :: st) σ') : G Γ p l e R s m args below meth c kc ks Q nL pc lv (.int x2 :: .int x1 :: .ref (Γ.2.2.1 0) :: st) σ :=
  g_callV (As := [.int x1, .int x2]) (rest := st) X hd (c_ST_areAlike' hf) co_ST_areAlike hlk wn_ST_areAlike wse_ST_areAlike (by decide) kd_0 rfl hR rfl rfl hw k
end
set_option maxRecDepth 10000 in
theorem c_ST_areLinked' {Γ : Gm} {l : Launch} {x1 : Int32} {x2 : Int32} {σ σ' : Sg} {r : Int32} (hf : f_ST_areLinked x1 x2 σ = some (r, σ')) : Ctr Γ l y_ST_areLinked c_ST_areLinked 3 (some .boolean) 1 21 [.ref (Γ.2.2.1 0), .int x1, .int x2] σ σ' (some (.int r)) := by
  refine Ctr.of (lv := [(0, .ref (Γ.2.2.1 0)), (1, .int x1), (2, .int x2)]) (by decide +kernel) (Nat.le_of_ble_eq_true rfl) rfl ?_
  intro p e s m args below meth c X hr hk9
  have X : Cx Γ p (z_rm 1 21) s m args c c_ST_areLinked 3 "CaptionTallies$State" 0 0 := X
  rw [f_ST_areLinked] at hf
  refine g_iload_n X d_ST_areLinked_0 1 rfl ?_
  refine g_bipush X d_ST_areLinked_1 (v := (nI 20)) rfl ?_
  obtain ⟨r1, σ2, er1, hf⟩ := bd_some hf
  refine can_CT_isIndex X d_ST_areLinked_3 wl_ST_67 ⟨Nat.le_of_ble_eq_true rfl, Nat.le_of_ble_eq_true rfl⟩ (sum8 rfl) er1 ?_
  refine g_if_eq X d_ST_areLinked_6 36 (by decide) (fun q3 => ?_) (fun q3 => ?_)
  · have hf := ite_t q3 hf
    refine g_iconst X d_ST_areLinked_36 (v := (nI 0)) rfl ?_
    exact g_zret X d_ST_areLinked_37 hr hk9 rfl hf
  · have hf := ite_f q3 hf
    refine g_iload_n X d_ST_areLinked_9 2 rfl ?_
    refine g_bipush X d_ST_areLinked_10 (v := (nI 20)) rfl ?_
    obtain ⟨r4, σ5, er4, hf⟩ := bd_some hf
    refine can_CT_isIndex X d_ST_areLinked_12 wl_ST_67 ⟨Nat.le_of_ble_eq_true rfl, Nat.le_of_ble_eq_true rfl⟩ (sum8 rfl) er4 ?_
    refine g_if_eq X d_ST_areLinked_15 36 (by decide) (fun q6 => ?_) (fun q6 => ?_)
    · have hf := ite_t q6 hf
      refine g_iconst X d_ST_areLinked_36 (v := (nI 0)) rfl ?_
      exact g_zret X d_ST_areLinked_37 hr hk9 rfl hf
    · have hf := ite_f q6 hf
      refine g_aload_n X d_ST_areLinked_18 0 rfl ?_
      refine gf_0_8 X d_ST_areLinked_19 wl_ST_38 ?_
      refine g_iload_n X d_ST_areLinked_22 1 rfl ?_
      refine g_bipush X d_ST_areLinked_23 (v := (nI 20)) rfl ?_
      refine g_imul X d_ST_areLinked_25 ?_
      refine g_iload_n X d_ST_areLinked_26 2 rfl ?_
      refine g_iadd X d_ST_areLinked_27 ?_
      obtain ⟨b7, hf⟩ := gd_some hf
      refine g_zald X d_ST_areLinked_28 kd_8 b7 ?_
      refine g_if_eq X d_ST_areLinked_29 36 (by decide) (fun q8 => ?_) (fun q8 => ?_)
      · have hf := ite_t q8 hf
        refine g_iconst X d_ST_areLinked_36 (v := (nI 0)) rfl ?_
        exact g_zret X d_ST_areLinked_37 hr hk9 rfl hf
      · have hf := ite_f q8 hf
        refine g_iconst X d_ST_areLinked_32 (v := (nI 1)) rfl ?_
        refine g_goto X d_ST_areLinked_33 37 (by decide) ?_
        exact g_zret X d_ST_areLinked_37 hr hk9 rfl hf
section
variable {R : Room} {kc ks : Nat} {Q : State → Prop} {nL : Nat} {cc : ByteArray} {own : String} {pc : Nat} {lv lv' : List (Nat × Value)} {st : List Value}
theorem ca_ST_areLinked {x1 : Int32} {x2 : Int32} (X : Cx Γ p R s m args c cc nL own kc ks) {idx : Nat} (hd : decode cc pc = .ok (.invokevirtual idx, 3)) (hlk : Cond.methodLink own idx y_ST_areLinked ∈ lw_gt) (hR : 1 + 1 ≤ R.frames ∧ 8 + (3 + 11) + 21 ≤ R.locals) (hw : (st.map fun v => v.category).sum ≤ 8) {σ σ' : Sg} {r : Int32} (hf : f_ST_areLinked x1 x2 σ = some (r, σ')) (k : G Γ p l e R s m args below meth c kc ks Q nL (pc + 3) lv (.int r :: st) σ') : G Γ p l e R s m args below meth c kc ks Q nL pc lv (.int x2 :: .int x1 :: .ref (Γ.2.2.1 0) :: st) σ :=
  g_callV (As := [.int x1, .int x2]) (rest := st) X hd (c_ST_areLinked' hf) co_ST_areLinked hlk wn_ST_areLinked wse_ST_areLinked (by decide) kd_0 rfl hR rfl rfl hw k
end
set_option maxRecDepth 10000 in
theorem c_GR_areTied' {Γ : Gm} {l : Launch} {x1 : Int32} {x2 : Int32} {σ σ' : Sg} {r : Int32} (hf : f_GR_areTied x1 x2 σ = some (r, σ')) : Ctr Γ l y_GR_areTied c_GR_areTied 3 (some .boolean) 2 43 [.ref (Γ.2.2.1 0), .int x1, .int x2] σ σ' (some (.int r)) := by
  refine Ctr.of (lv := [(0, .ref (Γ.2.2.1 0)), (1, .int x1), (2, .int x2)]) (by decide +kernel) (Nat.le_of_ble_eq_true rfl) rfl ?_
  intro p e s m args below meth c X hr hk9
  have X : Cx Γ p (z_rm 2 43) s m args c c_GR_areTied 3 "CaptionTallies$Groups" 0 0 := X
  rw [f_GR_areTied] at hf
  refine g_aload_n X d_GR_areTied_0 0 rfl ?_
  refine g_iload_n X d_GR_areTied_1 1 rfl ?_
  refine g_iload_n X d_GR_areTied_2 2 rfl ?_
  obtain ⟨r1, σ2, er1, hf⟩ := bd_some hf
  refine ca_ST_areLinked X d_GR_areTied_3 wl_GR_46 ⟨Nat.le_of_ble_eq_true rfl, Nat.le_of_ble_eq_true rfl⟩ (sum8 rfl) er1 ?_
  refine g_if_ne X d_GR_areTied_6 18 (by decide) (fun q3 => ?_) (fun q3 => ?_)
  · have hf := ite_f q3 hf
    refine g_iconst X d_GR_areTied_18 (v := (nI 1)) rfl ?_
    refine g_goto X d_GR_areTied_19 23 (by decide) ?_
    exact g_zret X d_GR_areTied_23 hr hk9 rfl hf
  · have hf := ite_t q3 hf
    refine g_aload_n X d_GR_areTied_9 0 rfl ?_
    refine g_iload_n X d_GR_areTied_10 1 rfl ?_
    refine g_iload_n X d_GR_areTied_11 2 rfl ?_
    obtain ⟨r4, σ5, er4, hf⟩ := bd_some hf
    refine ca_ST_areAlike X d_GR_areTied_12 wl_GR_50 ⟨Nat.le_of_ble_eq_true rfl, Nat.le_of_ble_eq_true rfl⟩ (sum8 rfl) er4 ?_
    refine g_if_eq X d_GR_areTied_15 22 (by decide) (fun q6 => ?_) (fun q6 => ?_)
    · have hf := ite_t q6 hf
      refine g_iconst X d_GR_areTied_22 (v := (nI 0)) rfl ?_
      exact g_zret X d_GR_areTied_23 hr hk9 rfl hf
    · have hf := ite_f q6 hf
      refine g_iconst X d_GR_areTied_18 (v := (nI 1)) rfl ?_
      refine g_goto X d_GR_areTied_19 23 (by decide) ?_
      exact g_zret X d_GR_areTied_23 hr hk9 rfl hf
section
variable {R : Room} {kc ks : Nat} {Q : State → Prop} {nL : Nat} {cc : ByteArray} {own : String} {pc : Nat} {lv lv' : List (Nat × Value)} {st : List Value}
theorem ca_GR_areTied {x1 : Int32} {x2 : Int32} (X : Cx Γ p R s m args c cc nL own kc ks) {idx : Nat} (hd : decode cc pc = .ok (.invokestatic idx, 3)) (hlk : Cond.methodLink own idx y_GR_areTied ∈ lw_gt) (hR : 2 + 1 ≤ R.frames ∧ 8 + (3 + 11) + 43 ≤ R.locals) (hw : (st.map fun v => v.category).sum ≤ 8) {σ σ' : Sg} {r : Int32} (hf : f_GR_areTied x1 x2 σ = some (r, σ')) (k : G Γ p l e R s m args below meth c kc ks Q nL (pc + 3) lv (.int r :: st) σ') : G Γ p l e R s m args below meth c kc ks Q nL pc lv (.int x2 :: .int x1 :: .ref (Γ.2.2.1 0) :: st) σ :=
  g_callS (As := [.ref (Γ.2.2.1 0), .int x1, .int x2]) (rest := st) X hd (c_GR_areTied' hf) co_GR_areTied hlk wn_GR_areTied hR rfl rfl hw k
theorem can_GR_areTied {x1 : Int32} {x2 : Int32} (X : Cx Γ p R s m args c cc nL own kc ks) {idx : Nat} (hd : decode cc pc = .ok (.invokestatic idx, 3)) (hlk : (own, idx, y_GR_areTied) ∈ z_nests) (hR : 2 + 1 ≤ R.frames ∧ 8 + (3 + 11) + 43 ≤ R.locals) (hw : (st.map fun v => v.category).sum ≤ 8) {σ σ' : Sg} {r : Int32} (hf : f_GR_areTied x1 x2 σ = some (r, σ')) (k : G Γ p l e R s m args below meth c kc ks Q nL (pc + 3) lv (.int r :: st) σ') : G Γ p l e R s m args below meth c kc ks Q nL pc lv (.int x2 :: .int x1 :: .ref (Γ.2.2.1 0) :: st) σ :=
  g_callSN (As := [.ref (Γ.2.2.1 0), .int x1, .int x2]) (rest := st) X hd (c_GR_areTied' hf) co_GR_areTied hlk wn_GR_areTied hR rfl rfl hw k
end
set_option maxRecDepth 10000 in
theorem w_GR_gather_48 {K23 : Int32 → Int32 → Int32 → Sg → Option (Int32 × Sg)} {r : Int32} {σ' : Sg} (X : Cx Γ p (z_rm 3 65) s m args c c_GR_gather 7 "CaptionTallies$Groups" 0 0) (hr : meth.sig.returnType = none) (hk9 : meth.locks = false) (hK23 : ∀ (x2 : Int32) (x3 : Int32) (x4 : Int32) (σ : Sg), K23 x2 x3 x4 σ = some (r, σ') → G Γ p l e (z_rm 3 65) s m args below meth c 0 0 (MQ below (Qx Γ none σ') args s 0 0 (fun q : Nat => Γ.2.2.2 ≤ q)) 7 23 [(0, .ref (Γ.2.2.1 82)), (1, .ref (Γ.2.2.1 0)), (2, .int x2), (3, .int x3), (4, .int x4)] [] σ) : ∀ (n9 : Nat) (x2 : Int32) (x3 : Int32) (x4 : Int32) (x5 : Int32) (x6 : Int32) (σ : Sg), f_GR_gather_48 K23 n9 x2 x3 x4 x5 x6 σ = some (r, σ') → G Γ p l e (z_rm 3 65) s m args below meth c 0 0 (MQ below (Qx Γ none σ') args s 0 0 (fun q : Nat => Γ.2.2.2 ≤ q)) 7 48 [(0, .ref (Γ.2.2.1 82)), (1, .ref (Γ.2.2.1 0)), (2, .int x2), (3, .int x3), (4, .int x4), (5, .int x5), (6, .int x6)] [] σ := by
  intro n9
  induction n9 with
  | zero => intro x2 x3 x4 x5 x6 σ hf; cases hf
  | succ n9 ih =>
    intro x2 x3 x4 x5 x6 σ hf
    rw [f_GR_gather_48] at hf
    refine g_iload X d_GR_gather_48 6 rfl ?_
    refine g_bipush X d_GR_gather_50 (v := (nI 20)) rfl ?_
    refine g_ic_ge X d_GR_gather_52 114 (by decide) (fun q1 => ?_) (fun q1 => ?_)
    · have hf := ite_t q1 hf
      refine g_iinc X d_GR_gather_114 (j := 4) (lv' := [(4, .int (x4 + (nI 1))), (0, .ref (Γ.2.2.1 82)), (1, .ref (Γ.2.2.1 0)), (2, .int x2), (3, .int x3), (5, .int x5), (6, .int x6)]) rfl rfl (Nat.le_of_ble_eq_true rfl) rfl ?_
      refine g_goto X d_GR_gather_117 23 (by decide) ?_
      refine g_sub [1, 2, 3, 4, 0] rfl ?_
      exact hK23 _ _ _ _ hf
    · have hf := ite_f q1 hf
      refine g_aload_n X d_GR_gather_55 0 rfl ?_
      refine gf_82_0 X d_GR_gather_56 wl_GR_9 ?_
      refine g_iload X d_GR_gather_59 6 rfl ?_
      obtain ⟨b2, hf⟩ := gd_some hf
      refine g_iald X d_GR_gather_61 kd_83 b2 ?_
      refine g_bipush X d_GR_gather_62 (v := (-5)) rfl ?_
      refine g_ic_ne X d_GR_gather_64 108 (by decide) (fun q3 => ?_) (fun q3 => ?_)
      · have hf := ite_f q3 hf
        refine g_iinc X d_GR_gather_108 (j := 6) (lv' := [(6, .int (x6 + (nI 1))), (0, .ref (Γ.2.2.1 82)), (1, .ref (Γ.2.2.1 0)), (2, .int x2), (3, .int x3), (4, .int x4), (5, .int x5)]) rfl rfl (Nat.le_of_ble_eq_true rfl) rfl ?_
        refine g_goto X d_GR_gather_111 48 (by decide) ?_
        refine g_sub [1, 2, 3, 4, 5, 6, 0] rfl ?_
        exact ih _ _ _ _ _ _ hf
      · have hf := ite_t q3 hf
        refine g_aload_n X d_GR_gather_67 1 rfl ?_
        refine g_iload X d_GR_gather_68 6 rfl ?_
        obtain ⟨r4, σ5, er4, hf⟩ := bd_some hf
        refine ca_ST_isIn X d_GR_gather_70 wl_GR_28 ⟨Nat.le_of_ble_eq_true rfl, Nat.le_of_ble_eq_true rfl⟩ (sum8 rfl) er4 ?_
        refine g_if_eq X d_GR_gather_73 108 (by decide) (fun q6 => ?_) (fun q6 => ?_)
        · have hf := ite_t q6 hf
          refine g_iinc X d_GR_gather_108 (j := 6) (lv' := [(6, .int (x6 + (nI 1))), (0, .ref (Γ.2.2.1 82)), (1, .ref (Γ.2.2.1 0)), (2, .int x2), (3, .int x3), (4, .int x4), (5, .int x5)]) rfl rfl (Nat.le_of_ble_eq_true rfl) rfl ?_
          refine g_goto X d_GR_gather_111 48 (by decide) ?_
          refine g_sub [1, 2, 3, 4, 5, 6, 0] rfl ?_
          exact ih _ _ _ _ _ _ hf
        · have hf := ite_f q6 hf
          refine g_aload_n X d_GR_gather_76 1 rfl ?_
          refine g_iload X d_GR_gather_77 5 rfl ?_
          refine g_iload X d_GR_gather_79 6 rfl ?_
          obtain ⟨r7, σ8, er7, hf⟩ := bd_some hf
          refine ca_GR_areTied X d_GR_gather_81 wl_GR_42 ⟨Nat.le_of_ble_eq_true rfl, Nat.le_of_ble_eq_true rfl⟩ (sum8 rfl) er7 ?_
          refine g_if_eq X d_GR_gather_84 108 (by decide) (fun q9 => ?_) (fun q9 => ?_)
          · have hf := ite_t q9 hf
            refine g_iinc X d_GR_gather_108 (j := 6) (lv' := [(6, .int (x6 + (nI 1))), (0, .ref (Γ.2.2.1 82)), (1, .ref (Γ.2.2.1 0)), (2, .int x2), (3, .int x3), (4, .int x4), (5, .int x5)]) rfl rfl (Nat.le_of_ble_eq_true rfl) rfl ?_
            refine g_goto X d_GR_gather_111 48 (by decide) ?_
            refine g_sub [1, 2, 3, 4, 5, 6, 0] rfl ?_
            exact ih _ _ _ _ _ _ hf
          · have hf := ite_f q9 hf
            refine g_aload_n X d_GR_gather_87 0 rfl ?_
            refine gf_82_0 X d_GR_gather_88 wl_GR_9 ?_
            refine g_iload X d_GR_gather_91 6 rfl ?_
            refine g_iload_n X d_GR_gather_93 2 rfl ?_
            obtain ⟨b10, hf⟩ := gd_some hf
            obtain ⟨σ11, eσ11, hf⟩ := lt_ex hf
            refine g_iast X d_GR_gather_94 kd_83 b10 eσ11 ?_
            refine g_aload_n X d_GR_gather_95 0 rfl ?_
            refine gf_82_1 X d_GR_gather_96 wl_GR_15 ?_
            refine g_iload_n X d_GR_gather_99 3 rfl ?_
            refine g_iload X d_GR_gather_100 6 rfl ?_
            obtain ⟨r12, σ13, er12, hf⟩ := bd_some hf
            refine can_CT_put X d_GR_gather_102 wl_GR_38 ⟨Nat.le_of_ble_eq_true rfl, Nat.le_of_ble_eq_true rfl⟩ (sum8 rfl) kd_84 er12 ?_
            refine g_iinc X d_GR_gather_105 (j := 3) (lv' := [(3, .int (x3 + (nI 1))), (0, .ref (Γ.2.2.1 82)), (1, .ref (Γ.2.2.1 0)), (2, .int x2), (4, .int x4), (5, .int x5), (6, .int x6)]) rfl rfl (Nat.le_of_ble_eq_true rfl) rfl ?_
            refine g_iinc X d_GR_gather_108 (j := 6) (lv' := [(6, .int (x6 + (nI 1))), (3, .int (x3 + (nI 1))), (0, .ref (Γ.2.2.1 82)), (1, .ref (Γ.2.2.1 0)), (2, .int x2), (4, .int x4), (5, .int x5)]) rfl rfl (Nat.le_of_ble_eq_true rfl) rfl ?_
            refine g_goto X d_GR_gather_111 48 (by decide) ?_
            refine g_sub [2, 3, 4, 1, 5, 6, 0] rfl ?_
            exact ih _ _ _ _ _ _ hf
set_option maxRecDepth 10000 in
theorem w_GR_gather_23 {r : Int32} {σ' : Sg} (X : Cx Γ p (z_rm 3 65) s m args c c_GR_gather 7 "CaptionTallies$Groups" 0 0) (hr : meth.sig.returnType = none) (hk9 : meth.locks = false) : ∀ (n9 : Nat) (x2 : Int32) (x3 : Int32) (x4 : Int32) (σ : Sg), f_GR_gather_23 n9 x2 x3 x4 σ = some (r, σ') → G Γ p l e (z_rm 3 65) s m args below meth c 0 0 (MQ below (Qx Γ none σ') args s 0 0 (fun q : Nat => Γ.2.2.2 ≤ q)) 7 23 [(0, .ref (Γ.2.2.1 82)), (1, .ref (Γ.2.2.1 0)), (2, .int x2), (3, .int x3), (4, .int x4)] [] σ := by
  intro n9
  induction n9 with
  | zero => intro x2 x3 x4 σ hf; cases hf
  | succ n9 ih =>
    intro x2 x3 x4 σ hf
    rw [f_GR_gather_23] at hf
    refine g_iload X d_GR_gather_23 4 rfl ?_
    refine g_iload_n X d_GR_gather_25 3 rfl ?_
    refine g_ic_ge X d_GR_gather_26 120 (by decide) (fun q1 => ?_) (fun q1 => ?_)
    · have hf := ite_t q1 hf
      exact g_vret X d_GR_gather_120 hr hk9 hf
    · have hf := ite_f q1 hf
      refine g_iload X d_GR_gather_29 4 rfl ?_
      refine g_bipush X d_GR_gather_31 (v := (nI 20)) rfl ?_
      refine g_ic_ge X d_GR_gather_33 120 (by decide) (fun q2 => ?_) (fun q2 => ?_)
      · have hf := ite_t q2 hf
        exact g_vret X d_GR_gather_120 hr hk9 hf
      · have hf := ite_f q2 hf
        refine g_aload_n X d_GR_gather_36 0 rfl ?_
        refine gf_82_1 X d_GR_gather_37 wl_GR_15 ?_
        refine g_iload X d_GR_gather_40 4 rfl ?_
        obtain ⟨b3, hf⟩ := gd_some hf
        refine g_iald X d_GR_gather_42 kd_84 b3 ?_
        obtain ⟨v4, ev4, hf⟩ := lt_ex hf
        refine g_top ev4 ?_
        refine g_istore X d_GR_gather_43 (lv' := [(5, .int v4), (0, .ref (Γ.2.2.1 82)), (1, .ref (Γ.2.2.1 0)), (2, .int x2), (3, .int x3), (4, .int x4)]) (Nat.le_of_ble_eq_true rfl) rfl ?_
        refine g_iconst X d_GR_gather_45 (v := (nI 0)) rfl ?_
        refine g_istore X d_GR_gather_46 (lv' := [(6, .int (nI 0)), (5, .int v4), (0, .ref (Γ.2.2.1 82)), (1, .ref (Γ.2.2.1 0)), (2, .int x2), (3, .int x3), (4, .int x4)]) (Nat.le_of_ble_eq_true rfl) rfl ?_
        refine g_sub [2, 3, 4, 5, 6, 1, 0] rfl ?_
        exact w_GR_gather_48 X hr hk9 ih _ _ _ _ _ _ _ hf
set_option maxRecDepth 10000 in
theorem c_GR_gather' {Γ : Gm} {l : Launch} {x2 : Int32} {σ σ' : Sg} {r : Int32} (hf : f_GR_gather x2 σ = some (r, σ')) : Ctr Γ l y_GR_gather c_GR_gather 7 none 3 65 [.ref (Γ.2.2.1 82), .ref (Γ.2.2.1 0), .int x2] σ σ' none := by
  refine Ctr.of (lv := [(0, .ref (Γ.2.2.1 82)), (1, .ref (Γ.2.2.1 0)), (2, .int x2)]) (by decide +kernel) (Nat.le_of_ble_eq_true rfl) rfl ?_
  intro p e s m args below meth c X hr hk9
  have X : Cx Γ p (z_rm 3 65) s m args c c_GR_gather 7 "CaptionTallies$Groups" 0 0 := X
  rw [f_GR_gather] at hf
  refine g_aload_n X d_GR_gather_0 0 rfl ?_
  refine gf_82_0 X d_GR_gather_1 wl_GR_9 ?_
  refine g_iload_n X d_GR_gather_4 2 rfl ?_
  refine g_iload_n X d_GR_gather_5 2 rfl ?_
  obtain ⟨r1, σ2, er1, hf⟩ := bd_some hf
  refine can_CT_put X d_GR_gather_6 wl_GR_38 ⟨Nat.le_of_ble_eq_true rfl, Nat.le_of_ble_eq_true rfl⟩ (sum8 rfl) kd_83 er1 ?_
  refine g_aload_n X d_GR_gather_9 0 rfl ?_
  refine gf_82_1 X d_GR_gather_10 wl_GR_15 ?_
  refine g_iconst X d_GR_gather_13 (v := (nI 0)) rfl ?_
  refine g_iload_n X d_GR_gather_14 2 rfl ?_
  obtain ⟨r3, σ4, er3, hf⟩ := bd_some hf
  refine can_CT_put X d_GR_gather_15 wl_GR_38 ⟨Nat.le_of_ble_eq_true rfl, Nat.le_of_ble_eq_true rfl⟩ (sum8 rfl) kd_84 er3 ?_
  refine g_iconst X d_GR_gather_18 (v := (nI 1)) rfl ?_
  refine g_istore_n X d_GR_gather_19 rfl (lv' := [(3, .int (nI 1)), (0, .ref (Γ.2.2.1 82)), (1, .ref (Γ.2.2.1 0)), (2, .int x2)]) (Nat.le_of_ble_eq_true rfl) rfl ?_
  refine g_iconst X d_GR_gather_20 (v := (nI 0)) rfl ?_
  refine g_istore X d_GR_gather_21 (lv' := [(4, .int (nI 0)), (3, .int (nI 1)), (0, .ref (Γ.2.2.1 82)), (1, .ref (Γ.2.2.1 0)), (2, .int x2)]) (Nat.le_of_ble_eq_true rfl) rfl ?_
  refine g_sub [2, 3, 4, 1, 0] rfl ?_
  exact w_GR_gather_23 X hr hk9 _ _ _ _ _ hf
section
variable {R : Room} {kc ks : Nat} {Q : State → Prop} {nL : Nat} {cc : ByteArray} {own : String} {pc : Nat} {lv lv' : List (Nat × Value)} {st : List Value}
theorem ca_GR_gather {x2 : Int32} (X : Cx Γ p R s m args c cc nL own kc ks) {idx : Nat} (hd : decode cc pc = .ok (.invokevirtual idx, 3)) (hlk : Cond.methodLink own idx y_GR_gather ∈ lw_gt) (hR : 3 + 1 ≤ R.frames ∧ 8 + (7 + 11) + 65 ≤ R.locals) (hw : (st.map fun v => v.category).sum ≤ 8) {σ σ' : Sg} {r : Int32} (hf : f_GR_gather x2 σ = some (r, σ')) (k : G Γ p l e R s m args below meth c kc ks Q nL (pc + 3) lv (st) σ') : G Γ p l e R s m args below meth c kc ks Q nL pc lv (.int x2 :: .ref (Γ.2.2.1 0) :: .ref (Γ.2.2.1 82) :: st) σ :=
  g_callV (As := [.ref (Γ.2.2.1 0), .int x2]) (rest := st) X hd (c_GR_gather' hf) co_GR_gather hlk wn_GR_gather wse_GR_gather (by decide) kd_82 rfl hR rfl rfl hw k
end
set_option maxRecDepth 10000 in
theorem w_GR_find_16 {r : Int32} {σ' : Sg} (X : Cx Γ p (z_rm 4 91) s m args c c_GR_find 3 "CaptionTallies$Groups" 0 0) (hr : meth.sig.returnType = none) (hk9 : meth.locks = false) : ∀ (n9 : Nat) (x2 : Int32) (σ : Sg), f_GR_find_16 n9 x2 σ = some (r, σ') → G Γ p l e (z_rm 4 91) s m args below meth c 0 0 (MQ below (Qx Γ none σ') args s 0 0 (fun q : Nat => Γ.2.2.2 ≤ q)) 3 16 [(0, .ref (Γ.2.2.1 82)), (1, .ref (Γ.2.2.1 0)), (2, .int x2)] [] σ := by
  intro n9
  induction n9 with
  | zero => intro x2 σ hf; cases hf
  | succ n9 ih =>
    intro x2 σ hf
    rw [f_GR_find_16] at hf
    refine g_iload_n X d_GR_find_16 2 rfl ?_
    refine g_bipush X d_GR_find_17 (v := (nI 20)) rfl ?_
    refine g_ic_ge X d_GR_find_19 63 (by decide) (fun q1 => ?_) (fun q1 => ?_)
    · have hf := ite_t q1 hf
      exact g_vret X d_GR_find_63 hr hk9 hf
    · have hf := ite_f q1 hf
      refine g_aload_n X d_GR_find_22 1 rfl ?_
      refine g_iload_n X d_GR_find_23 2 rfl ?_
      obtain ⟨r2, σ3, er2, hf⟩ := bd_some hf
      refine ca_ST_isIn X d_GR_find_24 wl_GR_28 ⟨Nat.le_of_ble_eq_true rfl, Nat.le_of_ble_eq_true rfl⟩ (sum8 rfl) er2 ?_
      refine g_if_eq X d_GR_find_27 57 (by decide) (fun q4 => ?_) (fun q4 => ?_)
      · have hf := ite_t q4 hf
        refine g_iinc X d_GR_find_57 (j := 2) (lv' := [(2, .int (x2 + (nI 1))), (0, .ref (Γ.2.2.1 82)), (1, .ref (Γ.2.2.1 0))]) rfl rfl (Nat.le_of_ble_eq_true rfl) rfl ?_
        refine g_goto X d_GR_find_60 16 (by decide) ?_
        refine g_sub [1, 2, 0] rfl ?_
        exact ih _ _ hf
      · have hf := ite_f q4 hf
        refine g_aload_n X d_GR_find_30 0 rfl ?_
        refine gf_82_0 X d_GR_find_31 wl_GR_9 ?_
        refine g_iload_n X d_GR_find_34 2 rfl ?_
        obtain ⟨b5, hf⟩ := gd_some hf
        refine g_iald X d_GR_find_35 kd_83 b5 ?_
        refine g_bipush X d_GR_find_36 (v := (-5)) rfl ?_
        refine g_ic_ne X d_GR_find_38 57 (by decide) (fun q6 => ?_) (fun q6 => ?_)
        · have hf := ite_f q6 hf
          refine g_iinc X d_GR_find_57 (j := 2) (lv' := [(2, .int (x2 + (nI 1))), (0, .ref (Γ.2.2.1 82)), (1, .ref (Γ.2.2.1 0))]) rfl rfl (Nat.le_of_ble_eq_true rfl) rfl ?_
          refine g_goto X d_GR_find_60 16 (by decide) ?_
          refine g_sub [1, 2, 0] rfl ?_
          exact ih _ _ hf
        · have hf := ite_t q6 hf
          refine g_aload_n X d_GR_find_41 0 rfl ?_
          refine g_dup X d_GR_find_42 rfl ?_
          refine gf_82_2 X d_GR_find_43 wl_GR_18 ?_
          refine g_iconst X d_GR_find_46 (v := (nI 1)) rfl ?_
          refine g_iadd X d_GR_find_47 ?_
          obtain ⟨σ7, eσ7, hf⟩ := lt_ex hf
          refine gp_82_2 X d_GR_find_48 wl_GR_18 eσ7 ?_
          refine g_aload_n X d_GR_find_51 0 rfl ?_
          refine g_aload_n X d_GR_find_52 1 rfl ?_
          refine g_iload_n X d_GR_find_53 2 rfl ?_
          obtain ⟨r8, σ9, er8, hf⟩ := bd_some hf
          refine ca_GR_gather X d_GR_find_54 wl_GR_34 ⟨Nat.le_of_ble_eq_true rfl, Nat.le_of_ble_eq_true rfl⟩ (sum8 rfl) er8 ?_
          refine g_iinc X d_GR_find_57 (j := 2) (lv' := [(2, .int (x2 + (nI 1))), (0, .ref (Γ.2.2.1 82)), (1, .ref (Γ.2.2.1 0))]) rfl rfl (Nat.le_of_ble_eq_true rfl) rfl ?_
          refine g_goto X d_GR_find_60 16 (by decide) ?_
          refine g_sub [1, 2, 0] rfl ?_
          exact ih _ _ hf
set_option maxRecDepth 10000 in
theorem c_GR_find' {Γ : Gm} {l : Launch} {σ σ' : Sg} {r : Int32} (hf : f_GR_find σ = some (r, σ')) : Ctr Γ l y_GR_find c_GR_find 3 none 4 91 [.ref (Γ.2.2.1 82), .ref (Γ.2.2.1 0)] σ σ' none := by
  refine Ctr.of (lv := [(0, .ref (Γ.2.2.1 82)), (1, .ref (Γ.2.2.1 0))]) (by decide +kernel) (Nat.le_of_ble_eq_true rfl) rfl ?_
  intro p e s m args below meth c X hr hk9
  have X : Cx Γ p (z_rm 4 91) s m args c c_GR_find 3 "CaptionTallies$Groups" 0 0 := X
  rw [f_GR_find] at hf
  refine g_aload_n X d_GR_find_0 0 rfl ?_
  refine gf_82_0 X d_GR_find_1 wl_GR_9 ?_
  refine g_bipush X d_GR_find_4 (v := (-5)) rfl ?_
  obtain ⟨r1, σ2, er1, hf⟩ := bd_some hf
  refine ca_AR_fill X d_GR_find_6 wl_GR_22 ⟨Nat.le_of_ble_eq_true rfl, Nat.le_of_ble_eq_true rfl⟩ (sum8 rfl) kd_83 er1 ?_
  refine g_aload_n X d_GR_find_9 0 rfl ?_
  refine g_iconst X d_GR_find_10 (v := (nI 0)) rfl ?_
  obtain ⟨σ3, eσ3, hf⟩ := lt_ex hf
  refine gp_82_2 X d_GR_find_11 wl_GR_18 eσ3 ?_
  refine g_iconst X d_GR_find_14 (v := (nI 0)) rfl ?_
  refine g_istore_n X d_GR_find_15 rfl (lv' := [(2, .int (nI 0)), (0, .ref (Γ.2.2.1 82)), (1, .ref (Γ.2.2.1 0))]) (Nat.le_of_ble_eq_true rfl) rfl ?_
  refine g_sub [1, 2, 0] rfl ?_
  exact w_GR_find_16 X hr hk9 _ _ _ hf
section
variable {R : Room} {kc ks : Nat} {Q : State → Prop} {nL : Nat} {cc : ByteArray} {own : String} {pc : Nat} {lv lv' : List (Nat × Value)} {st : List Value}
theorem ca_GR_find (X : Cx Γ p R s m args c cc nL own kc ks) {idx : Nat} (hd : decode cc pc = .ok (.invokevirtual idx, 3)) (hlk : Cond.methodLink own idx y_GR_find ∈ lw_gt) (hR : 4 + 1 ≤ R.frames ∧ 8 + (3 + 11) + 91 ≤ R.locals) (hw : (st.map fun v => v.category).sum ≤ 8) {σ σ' : Sg} {r : Int32} (hf : f_GR_find σ = some (r, σ')) (k : G Γ p l e R s m args below meth c kc ks Q nL (pc + 3) lv (st) σ') : G Γ p l e R s m args below meth c kc ks Q nL pc lv (.ref (Γ.2.2.1 0) :: .ref (Γ.2.2.1 82) :: st) σ :=
  g_callV (As := [.ref (Γ.2.2.1 0)]) (rest := st) X hd (c_GR_find' hf) co_GR_find hlk wn_GR_find wse_GR_find (by decide) kd_82 rfl hR rfl rfl hw k
end
set_option maxRecDepth 10000 in
theorem c_GR_headOf' {Γ : Gm} {l : Launch} {x1 : Int32} {σ σ' : Sg} {r : Int32} (hf : f_GR_headOf x1 σ = some (r, σ')) : Ctr Γ l y_GR_headOf c_GR_headOf 2 (some .int) 1 21 [.ref (Γ.2.2.1 82), .int x1] σ σ' (some (.int r)) := by
  refine Ctr.of (lv := [(0, .ref (Γ.2.2.1 82)), (1, .int x1)]) (by decide +kernel) (Nat.le_of_ble_eq_true rfl) rfl ?_
  intro p e s m args below meth c X hr hk9
  have X : Cx Γ p (z_rm 1 21) s m args c c_GR_headOf 2 "CaptionTallies$Groups" 0 0 := X
  rw [f_GR_headOf] at hf
  refine g_aload_n X d_GR_headOf_0 0 rfl ?_
  refine gf_82_0 X d_GR_headOf_1 wl_GR_9 ?_
  refine g_iload_n X d_GR_headOf_4 1 rfl ?_
  obtain ⟨r1, σ2, er1, hf⟩ := bd_some hf
  refine can_CT_at X d_GR_headOf_5 wl_GR_53 ⟨Nat.le_of_ble_eq_true rfl, Nat.le_of_ble_eq_true rfl⟩ (sum8 rfl) kd_83 er1 ?_
  exact g_iret X d_GR_headOf_8 hr hk9 hf
section
variable {R : Room} {kc ks : Nat} {Q : State → Prop} {nL : Nat} {cc : ByteArray} {own : String} {pc : Nat} {lv lv' : List (Nat × Value)} {st : List Value}
theorem ca_GR_headOf {x1 : Int32} (X : Cx Γ p R s m args c cc nL own kc ks) {idx : Nat} (hd : decode cc pc = .ok (.invokevirtual idx, 3)) (hlk : Cond.methodLink own idx y_GR_headOf ∈ lw_gt) (hR : 1 + 1 ≤ R.frames ∧ 8 + (2 + 11) + 21 ≤ R.locals) (hw : (st.map fun v => v.category).sum ≤ 8) {σ σ' : Sg} {r : Int32} (hf : f_GR_headOf x1 σ = some (r, σ')) (k : G Γ p l e R s m args below meth c kc ks Q nL (pc + 3) lv (.int r :: st) σ') : G Γ p l e R s m args below meth c kc ks Q nL pc lv (.int x1 :: .ref (Γ.2.2.1 82) :: st) σ :=
  g_callV (As := [.int x1]) (rest := st) X hd (c_GR_headOf' hf) co_GR_headOf hlk wn_GR_headOf wse_GR_headOf (by decide) kd_82 rfl hR rfl rfl hw k
end
set_option maxRecDepth 10000 in
theorem c_ST_putLink' {Γ : Gm} {l : Launch} {x1 : Int32} {x2 : Int32} {x3 : Int32} {σ σ' : Sg} {r : Int32} (hf : f_ST_putLink x1 x2 x3 σ = some (r, σ')) : Ctr Γ l y_ST_putLink c_ST_putLink 4 none 1 21 [.ref (Γ.2.2.1 0), .int x1, .int x2, .int x3] σ σ' none := by
  refine Ctr.of (lv := [(0, .ref (Γ.2.2.1 0)), (1, .int x1), (2, .int x2), (3, .int x3)]) (by decide +kernel) (Nat.le_of_ble_eq_true rfl) rfl ?_
  intro p e s m args below meth c X hr hk9
  have X : Cx Γ p (z_rm 1 21) s m args c c_ST_putLink 4 "CaptionTallies$State" 0 0 := X
  rw [f_ST_putLink] at hf
  refine g_iload_n X d_ST_putLink_0 1 rfl ?_
  refine g_bipush X d_ST_putLink_1 (v := (nI 20)) rfl ?_
  obtain ⟨r1, σ2, er1, hf⟩ := bd_some hf
  refine can_CT_isIndex X d_ST_putLink_3 wl_ST_67 ⟨Nat.le_of_ble_eq_true rfl, Nat.le_of_ble_eq_true rfl⟩ (sum8 rfl) er1 ?_
  refine g_if_eq X d_ST_putLink_6 42 (by decide) (fun q3 => ?_) (fun q3 => ?_)
  · have hf := ite_t q3 hf
    exact g_vret X d_ST_putLink_42 hr hk9 hf
  · have hf := ite_f q3 hf
    refine g_iload_n X d_ST_putLink_9 2 rfl ?_
    refine g_bipush X d_ST_putLink_10 (v := (nI 20)) rfl ?_
    obtain ⟨r4, σ5, er4, hf⟩ := bd_some hf
    refine can_CT_isIndex X d_ST_putLink_12 wl_ST_67 ⟨Nat.le_of_ble_eq_true rfl, Nat.le_of_ble_eq_true rfl⟩ (sum8 rfl) er4 ?_
    refine g_if_eq X d_ST_putLink_15 42 (by decide) (fun q6 => ?_) (fun q6 => ?_)
    · have hf := ite_t q6 hf
      exact g_vret X d_ST_putLink_42 hr hk9 hf
    · have hf := ite_f q6 hf
      refine g_aload_n X d_ST_putLink_18 0 rfl ?_
      refine gf_0_8 X d_ST_putLink_19 wl_ST_38 ?_
      refine g_iload_n X d_ST_putLink_22 1 rfl ?_
      refine g_bipush X d_ST_putLink_23 (v := (nI 20)) rfl ?_
      refine g_imul X d_ST_putLink_25 ?_
      refine g_iload_n X d_ST_putLink_26 2 rfl ?_
      refine g_iadd X d_ST_putLink_27 ?_
      refine g_iload_n X d_ST_putLink_28 3 rfl ?_
      obtain ⟨b7, hf⟩ := gd_some hf
      obtain ⟨b8, hf⟩ := gd_some hf
      obtain ⟨σ9, eσ9, hf⟩ := lt_ex hf
      refine g_zast X d_ST_putLink_29 kd_8 b7 b8 eσ9 ?_
      refine g_aload_n X d_ST_putLink_30 0 rfl ?_
      refine gf_0_8 X d_ST_putLink_31 wl_ST_38 ?_
      refine g_iload_n X d_ST_putLink_34 2 rfl ?_
      refine g_bipush X d_ST_putLink_35 (v := (nI 20)) rfl ?_
      refine g_imul X d_ST_putLink_37 ?_
      refine g_iload_n X d_ST_putLink_38 1 rfl ?_
      refine g_iadd X d_ST_putLink_39 ?_
      refine g_iload_n X d_ST_putLink_40 3 rfl ?_
      obtain ⟨b10, hf⟩ := gd_some hf
      obtain ⟨b11, hf⟩ := gd_some hf
      obtain ⟨σ12, eσ12, hf⟩ := lt_ex hf
      refine g_zast X d_ST_putLink_41 kd_8 b10 b11 eσ12 ?_
      exact g_vret X d_ST_putLink_42 hr hk9 hf
section
variable {R : Room} {kc ks : Nat} {Q : State → Prop} {nL : Nat} {cc : ByteArray} {own : String} {pc : Nat} {lv lv' : List (Nat × Value)} {st : List Value}
theorem ca_ST_putLink {x1 : Int32} {x2 : Int32} {x3 : Int32} (X : Cx Γ p R s m args c cc nL own kc ks) {idx : Nat} (hd : decode cc pc = .ok (.invokevirtual idx, 3)) (hlk : Cond.methodLink own idx y_ST_putLink ∈ lw_gt) (hR : 1 + 1 ≤ R.frames ∧ 8 + (4 + 11) + 21 ≤ R.locals) (hw : (st.map fun v => v.category).sum ≤ 8) {σ σ' : Sg} {r : Int32} (hf : f_ST_putLink x1 x2 x3 σ = some (r, σ')) (k : G Γ p l e R s m args below meth c kc ks Q nL (pc + 3) lv (st) σ') : G Γ p l e R s m args below meth c kc ks Q nL pc lv (.int x3 :: .int x2 :: .int x1 :: .ref (Γ.2.2.1 0) :: st) σ :=
  g_callV (As := [.int x1, .int x2, .int x3]) (rest := st) X hd (c_ST_putLink' hf) co_ST_putLink hlk wn_ST_putLink wse_ST_putLink (by decide) kd_0 rfl hR rfl rfl hw k
end
set_option maxRecDepth 10000 in
theorem c_ST_link' {Γ : Gm} {l : Launch} {x1 : Int32} {x2 : Int32} {σ σ' : Sg} {r : Int32} (hf : f_ST_link x1 x2 σ = some (r, σ')) : Ctr Γ l y_ST_link c_ST_link 3 none 2 44 [.ref (Γ.2.2.1 0), .int x1, .int x2] σ σ' none := by
  refine Ctr.of (lv := [(0, .ref (Γ.2.2.1 0)), (1, .int x1), (2, .int x2)]) (by decide +kernel) (Nat.le_of_ble_eq_true rfl) rfl ?_
  intro p e s m args below meth c X hr hk9
  have X : Cx Γ p (z_rm 2 44) s m args c c_ST_link 3 "CaptionTallies$State" 0 0 := X
  rw [f_ST_link] at hf
  refine g_aload_n X d_ST_link_0 0 rfl ?_
  refine g_iload_n X d_ST_link_1 1 rfl ?_
  refine g_iload_n X d_ST_link_2 2 rfl ?_
  refine g_iconst X d_ST_link_3 (v := (nI 1)) rfl ?_
  obtain ⟨r1, σ2, er1, hf⟩ := bd_some hf
  refine ca_ST_putLink X d_ST_link_4 wl_ST_124 ⟨Nat.le_of_ble_eq_true rfl, Nat.le_of_ble_eq_true rfl⟩ (sum8 rfl) er1 ?_
  exact g_vret X d_ST_link_7 hr hk9 hf
section
variable {R : Room} {kc ks : Nat} {Q : State → Prop} {nL : Nat} {cc : ByteArray} {own : String} {pc : Nat} {lv lv' : List (Nat × Value)} {st : List Value}
theorem ca_ST_link {x1 : Int32} {x2 : Int32} (X : Cx Γ p R s m args c cc nL own kc ks) {idx : Nat} (hd : decode cc pc = .ok (.invokevirtual idx, 3)) (hlk : Cond.methodLink own idx y_ST_link ∈ lw_gt) (hR : 2 + 1 ≤ R.frames ∧ 8 + (3 + 11) + 44 ≤ R.locals) (hw : (st.map fun v => v.category).sum ≤ 8) {σ σ' : Sg} {r : Int32} (hf : f_ST_link x1 x2 σ = some (r, σ')) (k : G Γ p l e R s m args below meth c kc ks Q nL (pc + 3) lv (st) σ') : G Γ p l e R s m args below meth c kc ks Q nL pc lv (.int x2 :: .int x1 :: .ref (Γ.2.2.1 0) :: st) σ :=
  g_callV (As := [.int x1, .int x2]) (rest := st) X hd (c_ST_link' hf) co_ST_link hlk wn_ST_link wse_ST_link (by decide) kd_0 rfl hR rfl rfl hw k
end
set_option maxRecDepth 10000 in
theorem c_CT_join' {Γ : Gm} {l : Launch} {x1 : Int32} {x2 : Int32} {σ σ' : Sg} {r : Int32} (hf : f_CT_join x1 x2 σ = some (r, σ')) : Ctr Γ l y_CT_join c_CT_join 3 (some .int) 5 113 [.ref (Γ.2.2.1 111), .int x1, .int x2] σ σ' (some (.int r)) := by
  refine Ctr.of (lv := [(0, .ref (Γ.2.2.1 111)), (1, .int x1), (2, .int x2)]) (by decide +kernel) (Nat.le_of_ble_eq_true rfl) rfl ?_
  intro p e s m args below meth c X hr hk9
  have X : Cx Γ p (z_rm 5 113) s m args c c_CT_join 3 "CaptionTallies" 0 0 := X
  rw [f_CT_join] at hf
  refine g_aload_n X d_CT_join_0 0 rfl ?_
  refine gf_111_1 X d_CT_join_1 wl_CT_19 ?_
  refine g_iload_n X d_CT_join_4 1 rfl ?_
  obtain ⟨r1, σ2, er1, hf⟩ := bd_some hf
  refine ca_ST_isIn X d_CT_join_5 wl_CT_105 ⟨Nat.le_of_ble_eq_true rfl, Nat.le_of_ble_eq_true rfl⟩ (sum8 rfl) er1 ?_
  refine g_if_eq X d_CT_join_8 22 (by decide) (fun q3 => ?_) (fun q3 => ?_)
  · have hf := ite_t q3 hf
    refine g_iconst X d_CT_join_22 (v := (-1)) rfl ?_
    exact g_iret X d_CT_join_23 hr hk9 hf
  · have hf := ite_f q3 hf
    refine g_aload_n X d_CT_join_11 0 rfl ?_
    refine gf_111_1 X d_CT_join_12 wl_CT_19 ?_
    refine g_iload_n X d_CT_join_15 2 rfl ?_
    obtain ⟨r4, σ5, er4, hf⟩ := bd_some hf
    refine ca_ST_isIn X d_CT_join_16 wl_CT_105 ⟨Nat.le_of_ble_eq_true rfl, Nat.le_of_ble_eq_true rfl⟩ (sum8 rfl) er4 ?_
    refine g_if_ne X d_CT_join_19 24 (by decide) (fun q6 => ?_) (fun q6 => ?_)
    · have hf := ite_f q6 hf
      refine g_iload_n X d_CT_join_24 1 rfl ?_
      refine g_iload_n X d_CT_join_25 2 rfl ?_
      refine g_ic_ne X d_CT_join_26 32 (by decide) (fun q7 => ?_) (fun q7 => ?_)
      · have hf := ite_f q7 hf
        refine g_aload_n X d_CT_join_32 0 rfl ?_
        refine gf_111_5 X d_CT_join_33 wl_CT_40 ?_
        refine g_aload_n X d_CT_join_36 0 rfl ?_
        refine gf_111_1 X d_CT_join_37 wl_CT_19 ?_
        obtain ⟨r8, σ9, er8, hf⟩ := bd_some hf
        refine ca_GR_find X d_CT_join_40 wl_CT_116 ⟨Nat.le_of_ble_eq_true rfl, Nat.le_of_ble_eq_true rfl⟩ (sum8 rfl) er8 ?_
        refine g_aload_n X d_CT_join_43 0 rfl ?_
        refine gf_111_5 X d_CT_join_44 wl_CT_40 ?_
        refine g_iload_n X d_CT_join_47 1 rfl ?_
        obtain ⟨r10, σ11, er10, hf⟩ := bd_some hf
        refine ca_GR_headOf X d_CT_join_48 wl_CT_119 ⟨Nat.le_of_ble_eq_true rfl, Nat.le_of_ble_eq_true rfl⟩ (sum8 rfl) er10 ?_
        refine g_aload_n X d_CT_join_51 0 rfl ?_
        refine gf_111_5 X d_CT_join_52 wl_CT_40 ?_
        refine g_iload_n X d_CT_join_55 2 rfl ?_
        obtain ⟨r12, σ13, er12, hf⟩ := bd_some hf
        refine ca_GR_headOf X d_CT_join_56 wl_CT_119 ⟨Nat.le_of_ble_eq_true rfl, Nat.le_of_ble_eq_true rfl⟩ (sum8 rfl) er12 ?_
        refine g_ic_ne X d_CT_join_59 65 (by decide) (fun q14 => ?_) (fun q14 => ?_)
        · have hf := ite_f q14 hf
          refine g_aload_n X d_CT_join_65 0 rfl ?_
          refine gf_111_2 X d_CT_join_66 wl_CT_26 ?_
          refine g_aload_n X d_CT_join_69 0 rfl ?_
          refine gf_111_1 X d_CT_join_70 wl_CT_19 ?_
          obtain ⟨r15, σ16, er15, hf⟩ := bd_some hf
          refine ca_HI_record X d_CT_join_73 wl_CT_97 ⟨Nat.le_of_ble_eq_true rfl, Nat.le_of_ble_eq_true rfl⟩ (sum8 rfl) er15 ?_
          refine g_aload_n X d_CT_join_76 0 rfl ?_
          refine gf_111_1 X d_CT_join_77 wl_CT_19 ?_
          refine g_iload_n X d_CT_join_80 1 rfl ?_
          refine g_iload_n X d_CT_join_81 2 rfl ?_
          obtain ⟨r17, σ18, er17, hf⟩ := bd_some hf
          refine ca_ST_link X d_CT_join_82 wl_CT_123 ⟨Nat.le_of_ble_eq_true rfl, Nat.le_of_ble_eq_true rfl⟩ (sum8 rfl) er17 ?_
          refine g_aload_n X d_CT_join_85 0 rfl ?_
          refine gf_111_5 X d_CT_join_86 wl_CT_40 ?_
          refine g_aload_n X d_CT_join_89 0 rfl ?_
          refine gf_111_1 X d_CT_join_90 wl_CT_19 ?_
          obtain ⟨r19, σ20, er19, hf⟩ := bd_some hf
          refine ca_GR_find X d_CT_join_93 wl_CT_116 ⟨Nat.le_of_ble_eq_true rfl, Nat.le_of_ble_eq_true rfl⟩ (sum8 rfl) er19 ?_
          refine g_aload_n X d_CT_join_96 0 rfl ?_
          refine gf_111_5 X d_CT_join_97 wl_CT_40 ?_
          refine g_iload_n X d_CT_join_100 1 rfl ?_
          obtain ⟨r21, σ22, er21, hf⟩ := bd_some hf
          refine ca_GR_headOf X d_CT_join_101 wl_CT_119 ⟨Nat.le_of_ble_eq_true rfl, Nat.le_of_ble_eq_true rfl⟩ (sum8 rfl) er21 ?_
          exact g_iret X d_CT_join_104 hr hk9 hf
        · have hf := ite_t q14 hf
          refine g_bipush X d_CT_join_62 (v := (-5)) rfl ?_
          exact g_iret X d_CT_join_64 hr hk9 hf
      · have hf := ite_t q7 hf
        refine g_bipush X d_CT_join_29 (v := (-2)) rfl ?_
        exact g_iret X d_CT_join_31 hr hk9 hf
    · have hf := ite_t q6 hf
      refine g_iconst X d_CT_join_22 (v := (-1)) rfl ?_
      exact g_iret X d_CT_join_23 hr hk9 hf
section
variable {R : Room} {kc ks : Nat} {Q : State → Prop} {nL : Nat} {cc : ByteArray} {own : String} {pc : Nat} {lv lv' : List (Nat × Value)} {st : List Value}
theorem ca_CT_join {x1 : Int32} {x2 : Int32} (X : Cx Γ p R s m args c cc nL own kc ks) {idx : Nat} (hd : decode cc pc = .ok (.invokevirtual idx, 3)) (hlk : Cond.methodLink own idx y_CT_join ∈ lw_gt) (hR : 5 + 1 ≤ R.frames ∧ 8 + (3 + 11) + 113 ≤ R.locals) (hw : (st.map fun v => v.category).sum ≤ 8) {σ σ' : Sg} {r : Int32} (hf : f_CT_join x1 x2 σ = some (r, σ')) (k : G Γ p l e R s m args below meth c kc ks Q nL (pc + 3) lv (.int r :: st) σ') : G Γ p l e R s m args below meth c kc ks Q nL pc lv (.int x2 :: .int x1 :: .ref (Γ.2.2.1 111) :: st) σ :=
  g_callV (As := [.int x1, .int x2]) (rest := st) X hd (c_CT_join' hf) co_CT_join hlk wn_CT_join wse_CT_join (by decide) kd_111 rfl hR rfl rfl hw k
end
set_option maxRecDepth 10000 in
theorem w_ST_cutLinks_2 {r : Int32} {σ' : Sg} (X : Cx Γ p (z_rm 2 44) s m args c c_ST_cutLinks 3 "CaptionTallies$State" 0 0) (hr : meth.sig.returnType = none) (hk9 : meth.locks = false) : ∀ (n9 : Nat) (x1 : Int32) (x2 : Int32) (σ : Sg), f_ST_cutLinks_2 n9 x1 x2 σ = some (r, σ') → G Γ p l e (z_rm 2 44) s m args below meth c 0 0 (MQ below (Qx Γ none σ') args s 0 0 (fun q : Nat => Γ.2.2.2 ≤ q)) 3 2 [(0, .ref (Γ.2.2.1 0)), (1, .int x1), (2, .int x2)] [] σ := by
  intro n9
  induction n9 with
  | zero => intro x1 x2 σ hf; cases hf
  | succ n9 ih =>
    intro x1 x2 σ hf
    rw [f_ST_cutLinks_2] at hf
    refine g_iload_n X d_ST_cutLinks_2 2 rfl ?_
    refine g_bipush X d_ST_cutLinks_3 (v := (nI 20)) rfl ?_
    refine g_ic_ge X d_ST_cutLinks_5 21 (by decide) (fun q1 => ?_) (fun q1 => ?_)
    · have hf := ite_t q1 hf
      exact g_vret X d_ST_cutLinks_21 hr hk9 hf
    · have hf := ite_f q1 hf
      refine g_aload_n X d_ST_cutLinks_8 0 rfl ?_
      refine g_iload_n X d_ST_cutLinks_9 1 rfl ?_
      refine g_iload_n X d_ST_cutLinks_10 2 rfl ?_
      refine g_iconst X d_ST_cutLinks_11 (v := (nI 0)) rfl ?_
      obtain ⟨r2, σ3, er2, hf⟩ := bd_some hf
      refine ca_ST_putLink X d_ST_cutLinks_12 wl_ST_124 ⟨Nat.le_of_ble_eq_true rfl, Nat.le_of_ble_eq_true rfl⟩ (sum8 rfl) er2 ?_
      refine g_iinc X d_ST_cutLinks_15 (j := 2) (lv' := [(2, .int (x2 + (nI 1))), (0, .ref (Γ.2.2.1 0)), (1, .int x1)]) rfl rfl (Nat.le_of_ble_eq_true rfl) rfl ?_
      refine g_goto X d_ST_cutLinks_18 2 (by decide) ?_
      refine g_sub [1, 2, 0] rfl ?_
      exact ih _ _ _ hf
set_option maxRecDepth 10000 in
theorem c_ST_cutLinks' {Γ : Gm} {l : Launch} {x1 : Int32} {σ σ' : Sg} {r : Int32} (hf : f_ST_cutLinks x1 σ = some (r, σ')) : Ctr Γ l y_ST_cutLinks c_ST_cutLinks 3 none 2 44 [.ref (Γ.2.2.1 0), .int x1] σ σ' none := by
  refine Ctr.of (lv := [(0, .ref (Γ.2.2.1 0)), (1, .int x1)]) (by decide +kernel) (Nat.le_of_ble_eq_true rfl) rfl ?_
  intro p e s m args below meth c X hr hk9
  have X : Cx Γ p (z_rm 2 44) s m args c c_ST_cutLinks 3 "CaptionTallies$State" 0 0 := X
  rw [f_ST_cutLinks] at hf
  refine g_iconst X d_ST_cutLinks_0 (v := (nI 0)) rfl ?_
  refine g_istore_n X d_ST_cutLinks_1 rfl (lv' := [(2, .int (nI 0)), (0, .ref (Γ.2.2.1 0)), (1, .int x1)]) (Nat.le_of_ble_eq_true rfl) rfl ?_
  refine g_sub [1, 2, 0] rfl ?_
  exact w_ST_cutLinks_2 X hr hk9 _ _ _ _ hf
section
variable {R : Room} {kc ks : Nat} {Q : State → Prop} {nL : Nat} {cc : ByteArray} {own : String} {pc : Nat} {lv lv' : List (Nat × Value)} {st : List Value}
theorem ca_ST_cutLinks {x1 : Int32} (X : Cx Γ p R s m args c cc nL own kc ks) {idx : Nat} (hd : decode cc pc = .ok (.invokevirtual idx, 3)) (hlk : Cond.methodLink own idx y_ST_cutLinks ∈ lw_gt) (hR : 2 + 1 ≤ R.frames ∧ 8 + (3 + 11) + 44 ≤ R.locals) (hw : (st.map fun v => v.category).sum ≤ 8) {σ σ' : Sg} {r : Int32} (hf : f_ST_cutLinks x1 σ = some (r, σ')) (k : G Γ p l e R s m args below meth c kc ks Q nL (pc + 3) lv (st) σ') : G Γ p l e R s m args below meth c kc ks Q nL pc lv (.int x1 :: .ref (Γ.2.2.1 0) :: st) σ :=
  g_callV (As := [.int x1]) (rest := st) X hd (c_ST_cutLinks' hf) co_ST_cutLinks hlk wn_ST_cutLinks wse_ST_cutLinks (by decide) kd_0 rfl hR rfl rfl hw k
end
set_option maxRecDepth 10000 in
theorem w_ST_hasLinks_2 {r : Int32} {σ' : Sg} (X : Cx Γ p (z_rm 2 43) s m args c c_ST_hasLinks 3 "CaptionTallies$State" 0 0) (hr : meth.sig.returnType = (some .boolean)) (hk9 : meth.locks = false) : ∀ (n9 : Nat) (x1 : Int32) (x2 : Int32) (σ : Sg), f_ST_hasLinks_2 n9 x1 x2 σ = some (r, σ') → G Γ p l e (z_rm 2 43) s m args below meth c 0 0 (MQ below (Qx Γ (some (.int r)) σ') args s 0 0 (fun q : Nat => Γ.2.2.2 ≤ q)) 3 2 [(0, .ref (Γ.2.2.1 0)), (1, .int x1), (2, .int x2)] [] σ := by
  intro n9
  induction n9 with
  | zero => intro x1 x2 σ hf; cases hf
  | succ n9 ih =>
    intro x1 x2 σ hf
    rw [f_ST_hasLinks_2] at hf
    refine g_iload_n X d_ST_hasLinks_2 2 rfl ?_
    refine g_bipush X d_ST_hasLinks_3 (v := (nI 20)) rfl ?_
    refine g_ic_ge X d_ST_hasLinks_5 25 (by decide) (fun q1 => ?_) (fun q1 => ?_)
    · have hf := ite_t q1 hf
      refine g_iconst X d_ST_hasLinks_25 (v := (nI 0)) rfl ?_
      exact g_zret X d_ST_hasLinks_26 hr hk9 rfl hf
    · have hf := ite_f q1 hf
      refine g_aload_n X d_ST_hasLinks_8 0 rfl ?_
      refine g_iload_n X d_ST_hasLinks_9 1 rfl ?_
      refine g_iload_n X d_ST_hasLinks_10 2 rfl ?_
      obtain ⟨r2, σ3, er2, hf⟩ := bd_some hf
      refine ca_ST_areLinked X d_ST_hasLinks_11 wl_ST_128 ⟨Nat.le_of_ble_eq_true rfl, Nat.le_of_ble_eq_true rfl⟩ (sum8 rfl) er2 ?_
      refine g_if_eq X d_ST_hasLinks_14 19 (by decide) (fun q4 => ?_) (fun q4 => ?_)
      · have hf := ite_t q4 hf
        refine g_iinc X d_ST_hasLinks_19 (j := 2) (lv' := [(2, .int (x2 + (nI 1))), (0, .ref (Γ.2.2.1 0)), (1, .int x1)]) rfl rfl (Nat.le_of_ble_eq_true rfl) rfl ?_
        refine g_goto X d_ST_hasLinks_22 2 (by decide) ?_
        refine g_sub [1, 2, 0] rfl ?_
        exact ih _ _ _ hf
      · have hf := ite_f q4 hf
        refine g_iconst X d_ST_hasLinks_17 (v := (nI 1)) rfl ?_
        exact g_zret X d_ST_hasLinks_18 hr hk9 rfl hf
set_option maxRecDepth 10000 in
theorem c_ST_hasLinks' {Γ : Gm} {l : Launch} {x1 : Int32} {σ σ' : Sg} {r : Int32} (hf : f_ST_hasLinks x1 σ = some (r, σ')) : Ctr Γ l y_ST_hasLinks c_ST_hasLinks 3 (some .boolean) 2 43 [.ref (Γ.2.2.1 0), .int x1] σ σ' (some (.int r)) := by
  refine Ctr.of (lv := [(0, .ref (Γ.2.2.1 0)), (1, .int x1)]) (by decide +kernel) (Nat.le_of_ble_eq_true rfl) rfl ?_
  intro p e s m args below meth c X hr hk9
  have X : Cx Γ p (z_rm 2 43) s m args c c_ST_hasLinks 3 "CaptionTallies$State" 0 0 := X
  rw [f_ST_hasLinks] at hf
  refine g_iconst X d_ST_hasLinks_0 (v := (nI 0)) rfl ?_
  refine g_istore_n X d_ST_hasLinks_1 rfl (lv' := [(2, .int (nI 0)), (0, .ref (Γ.2.2.1 0)), (1, .int x1)]) (Nat.le_of_ble_eq_true rfl) rfl ?_
  refine g_sub [1, 2, 0] rfl ?_
  exact w_ST_hasLinks_2 X hr hk9 _ _ _ _ hf
section
variable {R : Room} {kc ks : Nat} {Q : State → Prop} {nL : Nat} {cc : ByteArray} {own : String} {pc : Nat} {lv lv' : List (Nat × Value)} {st : List Value}
theorem ca_ST_hasLinks {x1 : Int32} (X : Cx Γ p R s m args c cc nL own kc ks) {idx : Nat} (hd : decode cc pc = .ok (.invokevirtual idx, 3)) (hlk : Cond.methodLink own idx y_ST_hasLinks ∈ lw_gt) (hR : 2 + 1 ≤ R.frames ∧ 8 + (3 + 11) + 43 ≤ R.locals) (hw : (st.map fun v => v.category).sum ≤ 8) {σ σ' : Sg} {r : Int32} (hf : f_ST_hasLinks x1 σ = some (r, σ')) (k : G Γ p l e R s m args below meth c kc ks Q nL (pc + 3) lv (.int r :: st) σ') : G Γ p l e R s m args below meth c kc ks Q nL pc lv (.int x1 :: .ref (Γ.2.2.1 0) :: st) σ :=
  g_callV (As := [.int x1]) (rest := st) X hd (c_ST_hasLinks' hf) co_ST_hasLinks hlk wn_ST_hasLinks wse_ST_hasLinks (by decide) kd_0 rfl hR rfl rfl hw k
end
set_option maxRecDepth 10000 in
theorem c_CT_part' {Γ : Gm} {l : Launch} {x1 : Int32} {σ σ' : Sg} {r : Int32} (hf : f_CT_part x1 σ = some (r, σ')) : Ctr Γ l y_CT_part c_CT_part 2 (some .int) 5 113 [.ref (Γ.2.2.1 111), .int x1] σ σ' (some (.int r)) := by
  refine Ctr.of (lv := [(0, .ref (Γ.2.2.1 111)), (1, .int x1)]) (by decide +kernel) (Nat.le_of_ble_eq_true rfl) rfl ?_
  intro p e s m args below meth c X hr hk9
  have X : Cx Γ p (z_rm 5 113) s m args c c_CT_part 2 "CaptionTallies" 0 0 := X
  rw [f_CT_part] at hf
  refine g_aload_n X d_CT_part_0 0 rfl ?_
  refine gf_111_1 X d_CT_part_1 wl_CT_19 ?_
  refine g_iload_n X d_CT_part_4 1 rfl ?_
  obtain ⟨r1, σ2, er1, hf⟩ := bd_some hf
  refine ca_ST_isIn X d_CT_part_5 wl_CT_105 ⟨Nat.le_of_ble_eq_true rfl, Nat.le_of_ble_eq_true rfl⟩ (sum8 rfl) er1 ?_
  refine g_if_ne X d_CT_part_8 13 (by decide) (fun q3 => ?_) (fun q3 => ?_)
  · have hf := ite_f q3 hf
    refine g_aload_n X d_CT_part_13 0 rfl ?_
    refine gf_111_1 X d_CT_part_14 wl_CT_19 ?_
    refine g_iload_n X d_CT_part_17 1 rfl ?_
    obtain ⟨r4, σ5, er4, hf⟩ := bd_some hf
    refine ca_ST_hasLinks X d_CT_part_18 wl_CT_127 ⟨Nat.le_of_ble_eq_true rfl, Nat.le_of_ble_eq_true rfl⟩ (sum8 rfl) er4 ?_
    refine g_if_ne X d_CT_part_21 27 (by decide) (fun q6 => ?_) (fun q6 => ?_)
    · have hf := ite_f q6 hf
      refine g_aload_n X d_CT_part_27 0 rfl ?_
      refine gf_111_2 X d_CT_part_28 wl_CT_26 ?_
      refine g_aload_n X d_CT_part_31 0 rfl ?_
      refine gf_111_1 X d_CT_part_32 wl_CT_19 ?_
      obtain ⟨r7, σ8, er7, hf⟩ := bd_some hf
      refine ca_HI_record X d_CT_part_35 wl_CT_97 ⟨Nat.le_of_ble_eq_true rfl, Nat.le_of_ble_eq_true rfl⟩ (sum8 rfl) er7 ?_
      refine g_aload_n X d_CT_part_38 0 rfl ?_
      refine gf_111_1 X d_CT_part_39 wl_CT_19 ?_
      refine g_iload_n X d_CT_part_42 1 rfl ?_
      obtain ⟨r9, σ10, er9, hf⟩ := bd_some hf
      refine ca_ST_cutLinks X d_CT_part_43 wl_CT_130 ⟨Nat.le_of_ble_eq_true rfl, Nat.le_of_ble_eq_true rfl⟩ (sum8 rfl) er9 ?_
      refine g_aload_n X d_CT_part_46 0 rfl ?_
      refine gf_111_5 X d_CT_part_47 wl_CT_40 ?_
      refine g_aload_n X d_CT_part_50 0 rfl ?_
      refine gf_111_1 X d_CT_part_51 wl_CT_19 ?_
      obtain ⟨r11, σ12, er11, hf⟩ := bd_some hf
      refine ca_GR_find X d_CT_part_54 wl_CT_116 ⟨Nat.le_of_ble_eq_true rfl, Nat.le_of_ble_eq_true rfl⟩ (sum8 rfl) er11 ?_
      refine g_aload_n X d_CT_part_57 0 rfl ?_
      refine gf_111_5 X d_CT_part_58 wl_CT_40 ?_
      refine g_iload_n X d_CT_part_61 1 rfl ?_
      obtain ⟨r13, σ14, er13, hf⟩ := bd_some hf
      refine ca_GR_headOf X d_CT_part_62 wl_CT_119 ⟨Nat.le_of_ble_eq_true rfl, Nat.le_of_ble_eq_true rfl⟩ (sum8 rfl) er13 ?_
      exact g_iret X d_CT_part_65 hr hk9 hf
    · have hf := ite_t q6 hf
      refine g_bipush X d_CT_part_24 (v := (-5)) rfl ?_
      exact g_iret X d_CT_part_26 hr hk9 hf
  · have hf := ite_t q3 hf
    refine g_iconst X d_CT_part_11 (v := (-1)) rfl ?_
    exact g_iret X d_CT_part_12 hr hk9 hf
section
variable {R : Room} {kc ks : Nat} {Q : State → Prop} {nL : Nat} {cc : ByteArray} {own : String} {pc : Nat} {lv lv' : List (Nat × Value)} {st : List Value}
theorem ca_CT_part {x1 : Int32} (X : Cx Γ p R s m args c cc nL own kc ks) {idx : Nat} (hd : decode cc pc = .ok (.invokevirtual idx, 3)) (hlk : Cond.methodLink own idx y_CT_part ∈ lw_gt) (hR : 5 + 1 ≤ R.frames ∧ 8 + (2 + 11) + 113 ≤ R.locals) (hw : (st.map fun v => v.category).sum ≤ 8) {σ σ' : Sg} {r : Int32} (hf : f_CT_part x1 σ = some (r, σ')) (k : G Γ p l e R s m args below meth c kc ks Q nL (pc + 3) lv (.int r :: st) σ') : G Γ p l e R s m args below meth c kc ks Q nL pc lv (.int x1 :: .ref (Γ.2.2.1 111) :: st) σ :=
  g_callV (As := [.int x1]) (rest := st) X hd (c_CT_part' hf) co_CT_part hlk wn_CT_part wse_CT_part (by decide) kd_111 rfl hR rfl rfl hw k
end
set_option maxRecDepth 10000 in
theorem w_CT_hasGap_18 {r : Int32} {σ' : Sg} (X : Cx Γ p (z_rm 0 0) s m args c c_CT_hasGap 3 "CaptionTallies" 0 0) (hr : meth.sig.returnType = (some .boolean)) (hk9 : meth.locks = false)  (x1 : Int32) (x2 : Int32) (σ : Sg) (hf : f_CT_hasGap_18 x1 x2 σ = some (r, σ')) : G Γ p l e (z_rm 0 0) s m args below meth c 0 0 (MQ below (Qx Γ (some (.int r)) σ') args s 0 0 (fun q : Nat => Γ.2.2.2 ≤ q)) 3 18 [(1, .int x1), (2, .int x2)] [] σ := by
  rw [f_CT_hasGap_18] at hf
  refine g_iload_n X d_CT_hasGap_18 0 rfl ?_
  refine g_bipush X d_CT_hasGap_19 (v := (-5)) rfl ?_
  refine g_ic_ne X d_CT_hasGap_21 34 (by decide) (fun q1 => ?_) (fun q1 => ?_)
  · have hf := ite_f q1 hf
    refine g_iconst X d_CT_hasGap_34 (v := (nI 0)) rfl ?_
    exact g_zret X d_CT_hasGap_35 hr hk9 rfl hf
  · have hf := ite_t q1 hf
    refine g_iload_n X d_CT_hasGap_24 1 rfl ?_
    refine g_bipush X d_CT_hasGap_25 (v := (-5)) rfl ?_
    refine g_ic_eq X d_CT_hasGap_27 34 (by decide) (fun q2 => ?_) (fun q2 => ?_)
    · have hf := ite_t q2 hf
      refine g_iconst X d_CT_hasGap_34 (v := (nI 0)) rfl ?_
      exact g_zret X d_CT_hasGap_35 hr hk9 rfl hf
    · have hf := ite_f q2 hf
      refine g_iconst X d_CT_hasGap_30 (v := (nI 1)) rfl ?_
      refine g_goto X d_CT_hasGap_31 35 (by decide) ?_
      exact g_zret X d_CT_hasGap_35 hr hk9 rfl hf
set_option maxRecDepth 10000 in
theorem c_CT_hasGap' {Γ : Gm} {l : Launch} {x0 : Int32} {x1 : Int32} {x2 : Int32} {σ σ' : Sg} {r : Int32} (hf : f_CT_hasGap x0 x1 x2 σ = some (r, σ')) : Ctr Γ l y_CT_hasGap c_CT_hasGap 3 (some .boolean) 0 0 [.int x0, .int x1, .int x2] σ σ' (some (.int r)) := by
  refine Ctr.of (lv := [(0, .int x0), (1, .int x1), (2, .int x2)]) (by decide +kernel) (Nat.le_of_ble_eq_true rfl) rfl ?_
  intro p e s m args below meth c X hr hk9
  have X : Cx Γ p (z_rm 0 0) s m args c c_CT_hasGap 3 "CaptionTallies" 0 0 := X
  rw [f_CT_hasGap] at hf
  refine g_iload_n X d_CT_hasGap_0 0 rfl ?_
  refine g_bipush X d_CT_hasGap_1 (v := (-5)) rfl ?_
  refine g_ic_ne X d_CT_hasGap_3 18 (by decide) (fun q1 => ?_) (fun q1 => ?_)
  · have hf := ite_f q1 hf
    refine g_sub [1, 2] rfl ?_
    exact w_CT_hasGap_18 X hr hk9 _ _ _ hf
  · have hf := ite_t q1 hf
    refine g_iload_n X d_CT_hasGap_6 1 rfl ?_
    refine g_bipush X d_CT_hasGap_7 (v := (-5)) rfl ?_
    refine g_ic_ne X d_CT_hasGap_9 30 (by decide) (fun q2 => ?_) (fun q2 => ?_)
    · have hf := ite_f q2 hf
      refine g_iconst X d_CT_hasGap_30 (v := (nI 1)) rfl ?_
      refine g_goto X d_CT_hasGap_31 35 (by decide) ?_
      exact g_zret X d_CT_hasGap_35 hr hk9 rfl hf
    · have hf := ite_t q2 hf
      refine g_iload_n X d_CT_hasGap_12 2 rfl ?_
      refine g_bipush X d_CT_hasGap_13 (v := (-5)) rfl ?_
      refine g_ic_ne X d_CT_hasGap_15 30 (by decide) (fun q3 => ?_) (fun q3 => ?_)
      · have hf := ite_f q3 hf
        refine g_iconst X d_CT_hasGap_30 (v := (nI 1)) rfl ?_
        refine g_goto X d_CT_hasGap_31 35 (by decide) ?_
        exact g_zret X d_CT_hasGap_35 hr hk9 rfl hf
      · have hf := ite_t q3 hf
        refine g_sub [1, 2] rfl ?_
        exact w_CT_hasGap_18 X hr hk9 _ _ _ hf
section
variable {R : Room} {kc ks : Nat} {Q : State → Prop} {nL : Nat} {cc : ByteArray} {own : String} {pc : Nat} {lv lv' : List (Nat × Value)} {st : List Value}
theorem ca_CT_hasGap {x0 : Int32} {x1 : Int32} {x2 : Int32} (X : Cx Γ p R s m args c cc nL own kc ks) {idx : Nat} (hd : decode cc pc = .ok (.invokestatic idx, 3)) (hlk : Cond.methodLink own idx y_CT_hasGap ∈ lw_gt) (hR : 0 + 1 ≤ R.frames ∧ 8 + (3 + 11) + 0 ≤ R.locals) (hw : (st.map fun v => v.category).sum ≤ 8) {σ σ' : Sg} {r : Int32} (hf : f_CT_hasGap x0 x1 x2 σ = some (r, σ')) (k : G Γ p l e R s m args below meth c kc ks Q nL (pc + 3) lv (.int r :: st) σ') : G Γ p l e R s m args below meth c kc ks Q nL pc lv (.int x2 :: .int x1 :: .int x0 :: st) σ :=
  g_callS (As := [.int x0, .int x1, .int x2]) (rest := st) X hd (c_CT_hasGap' hf) co_CT_hasGap hlk wn_CT_hasGap hR rfl rfl hw k
theorem can_CT_hasGap {x0 : Int32} {x1 : Int32} {x2 : Int32} (X : Cx Γ p R s m args c cc nL own kc ks) {idx : Nat} (hd : decode cc pc = .ok (.invokestatic idx, 3)) (hlk : (own, idx, y_CT_hasGap) ∈ z_nests) (hR : 0 + 1 ≤ R.frames ∧ 8 + (3 + 11) + 0 ≤ R.locals) (hw : (st.map fun v => v.category).sum ≤ 8) {σ σ' : Sg} {r : Int32} (hf : f_CT_hasGap x0 x1 x2 σ = some (r, σ')) (k : G Γ p l e R s m args below meth c kc ks Q nL (pc + 3) lv (.int r :: st) σ') : G Γ p l e R s m args below meth c kc ks Q nL pc lv (.int x2 :: .int x1 :: .int x0 :: st) σ :=
  g_callSN (As := [.int x0, .int x1, .int x2]) (rest := st) X hd (c_CT_hasGap' hf) co_CT_hasGap hlk wn_CT_hasGap hR rfl rfl hw k
end
set_option maxRecDepth 10000 in
theorem w_CT_isTwice_16 {r : Int32} {σ' : Sg} (X : Cx Γ p (z_rm 0 0) s m args c c_CT_isTwice 3 "CaptionTallies" 0 0) (hr : meth.sig.returnType = (some .boolean)) (hk9 : meth.locks = false)  (x1 : Int32) (x2 : Int32) (σ : Sg) (hf : f_CT_isTwice_16 x1 x2 σ = some (r, σ')) : G Γ p l e (z_rm 0 0) s m args below meth c 0 0 (MQ below (Qx Γ (some (.int r)) σ') args s 0 0 (fun q : Nat => Γ.2.2.2 ≤ q)) 3 16 [(1, .int x1), (2, .int x2)] [] σ := by
  rw [f_CT_isTwice_16] at hf
  refine g_iload_n X d_CT_isTwice_16 0 rfl ?_
  refine g_bipush X d_CT_isTwice_17 (v := (-5)) rfl ?_
  refine g_ic_eq X d_CT_isTwice_19 31 (by decide) (fun q1 => ?_) (fun q1 => ?_)
  · have hf := ite_t q1 hf
    refine g_iconst X d_CT_isTwice_31 (v := (nI 0)) rfl ?_
    exact g_zret X d_CT_isTwice_32 hr hk9 rfl hf
  · have hf := ite_f q1 hf
    refine g_iload_n X d_CT_isTwice_22 0 rfl ?_
    refine g_iload_n X d_CT_isTwice_23 1 rfl ?_
    refine g_ic_ne X d_CT_isTwice_24 31 (by decide) (fun q2 => ?_) (fun q2 => ?_)
    · have hf := ite_f q2 hf
      refine g_iconst X d_CT_isTwice_31 (v := (nI 0)) rfl ?_
      exact g_zret X d_CT_isTwice_32 hr hk9 rfl hf
    · have hf := ite_t q2 hf
      refine g_iconst X d_CT_isTwice_27 (v := (nI 1)) rfl ?_
      refine g_goto X d_CT_isTwice_28 32 (by decide) ?_
      exact g_zret X d_CT_isTwice_32 hr hk9 rfl hf
set_option maxRecDepth 10000 in
theorem c_CT_isTwice' {Γ : Gm} {l : Launch} {x0 : Int32} {x1 : Int32} {x2 : Int32} {σ σ' : Sg} {r : Int32} (hf : f_CT_isTwice x0 x1 x2 σ = some (r, σ')) : Ctr Γ l y_CT_isTwice c_CT_isTwice 3 (some .boolean) 0 0 [.int x0, .int x1, .int x2] σ σ' (some (.int r)) := by
  refine Ctr.of (lv := [(0, .int x0), (1, .int x1), (2, .int x2)]) (by decide +kernel) (Nat.le_of_ble_eq_true rfl) rfl ?_
  intro p e s m args below meth c X hr hk9
  have X : Cx Γ p (z_rm 0 0) s m args c c_CT_isTwice 3 "CaptionTallies" 0 0 := X
  rw [f_CT_isTwice] at hf
  refine g_iload_n X d_CT_isTwice_0 0 rfl ?_
  refine g_bipush X d_CT_isTwice_1 (v := (-5)) rfl ?_
  refine g_ic_eq X d_CT_isTwice_3 16 (by decide) (fun q1 => ?_) (fun q1 => ?_)
  · have hf := ite_t q1 hf
    refine g_sub [1, 2] rfl ?_
    exact w_CT_isTwice_16 X hr hk9 _ _ _ hf
  · have hf := ite_f q1 hf
    refine g_iload_n X d_CT_isTwice_6 0 rfl ?_
    refine g_iload_n X d_CT_isTwice_7 1 rfl ?_
    refine g_ic_eq X d_CT_isTwice_8 27 (by decide) (fun q2 => ?_) (fun q2 => ?_)
    · have hf := ite_t q2 hf
      refine g_iconst X d_CT_isTwice_27 (v := (nI 1)) rfl ?_
      refine g_goto X d_CT_isTwice_28 32 (by decide) ?_
      exact g_zret X d_CT_isTwice_32 hr hk9 rfl hf
    · have hf := ite_f q2 hf
      refine g_iload_n X d_CT_isTwice_11 0 rfl ?_
      refine g_iload_n X d_CT_isTwice_12 2 rfl ?_
      refine g_ic_eq X d_CT_isTwice_13 27 (by decide) (fun q3 => ?_) (fun q3 => ?_)
      · have hf := ite_t q3 hf
        refine g_iconst X d_CT_isTwice_27 (v := (nI 1)) rfl ?_
        refine g_goto X d_CT_isTwice_28 32 (by decide) ?_
        exact g_zret X d_CT_isTwice_32 hr hk9 rfl hf
      · have hf := ite_f q3 hf
        refine g_sub [1, 2] rfl ?_
        exact w_CT_isTwice_16 X hr hk9 _ _ _ hf
section
variable {R : Room} {kc ks : Nat} {Q : State → Prop} {nL : Nat} {cc : ByteArray} {own : String} {pc : Nat} {lv lv' : List (Nat × Value)} {st : List Value}
theorem ca_CT_isTwice {x0 : Int32} {x1 : Int32} {x2 : Int32} (X : Cx Γ p R s m args c cc nL own kc ks) {idx : Nat} (hd : decode cc pc = .ok (.invokestatic idx, 3)) (hlk : Cond.methodLink own idx y_CT_isTwice ∈ lw_gt) (hR : 0 + 1 ≤ R.frames ∧ 8 + (3 + 11) + 0 ≤ R.locals) (hw : (st.map fun v => v.category).sum ≤ 8) {σ σ' : Sg} {r : Int32} (hf : f_CT_isTwice x0 x1 x2 σ = some (r, σ')) (k : G Γ p l e R s m args below meth c kc ks Q nL (pc + 3) lv (.int r :: st) σ') : G Γ p l e R s m args below meth c kc ks Q nL pc lv (.int x2 :: .int x1 :: .int x0 :: st) σ :=
  g_callS (As := [.int x0, .int x1, .int x2]) (rest := st) X hd (c_CT_isTwice' hf) co_CT_isTwice hlk wn_CT_isTwice hR rfl rfl hw k
theorem can_CT_isTwice {x0 : Int32} {x1 : Int32} {x2 : Int32} (X : Cx Γ p R s m args c cc nL own kc ks) {idx : Nat} (hd : decode cc pc = .ok (.invokestatic idx, 3)) (hlk : (own, idx, y_CT_isTwice) ∈ z_nests) (hR : 0 + 1 ≤ R.frames ∧ 8 + (3 + 11) + 0 ≤ R.locals) (hw : (st.map fun v => v.category).sum ≤ 8) {σ σ' : Sg} {r : Int32} (hf : f_CT_isTwice x0 x1 x2 σ = some (r, σ')) (k : G Γ p l e R s m args below meth c kc ks Q nL (pc + 3) lv (.int r :: st) σ') : G Γ p l e R s m args below meth c kc ks Q nL pc lv (.int x2 :: .int x1 :: .int x0 :: st) σ :=
  g_callSN (As := [.int x0, .int x1, .int x2]) (rest := st) X hd (c_CT_isTwice' hf) co_CT_isTwice hlk wn_CT_isTwice hR rfl rfl hw k
end
set_option maxRecDepth 10000 in
theorem c_CT_isWish' {Γ : Gm} {l : Launch} {x1 : Int32} {σ σ' : Sg} {r : Int32} (hf : f_CT_isWish x1 σ = some (r, σ')) : Ctr Γ l y_CT_isWish c_CT_isWish 2 (some .boolean) 2 42 [.ref (Γ.2.2.1 111), .int x1] σ σ' (some (.int r)) := by
  refine Ctr.of (lv := [(0, .ref (Γ.2.2.1 111)), (1, .int x1)]) (by decide +kernel) (Nat.le_of_ble_eq_true rfl) rfl ?_
  intro p e s m args below meth c X hr hk9
  have X : Cx Γ p (z_rm 2 42) s m args c c_CT_isWish 2 "CaptionTallies" 0 0 := X
  rw [f_CT_isWish] at hf
  refine g_iload_n X d_CT_isWish_0 1 rfl ?_
  refine g_bipush X d_CT_isWish_1 (v := (-5)) rfl ?_
  refine g_ic_eq X d_CT_isWish_3 17 (by decide) (fun q1 => ?_) (fun q1 => ?_)
  · have hf := ite_t q1 hf
    refine g_iconst X d_CT_isWish_17 (v := (nI 1)) rfl ?_
    refine g_goto X d_CT_isWish_18 22 (by decide) ?_
    exact g_zret X d_CT_isWish_22 hr hk9 rfl hf
  · have hf := ite_f q1 hf
    refine g_aload_n X d_CT_isWish_6 0 rfl ?_
    refine gf_111_1 X d_CT_isWish_7 wl_CT_19 ?_
    refine g_iload_n X d_CT_isWish_10 1 rfl ?_
    obtain ⟨r2, σ3, er2, hf⟩ := bd_some hf
    refine ca_ST_isIn X d_CT_isWish_11 wl_CT_105 ⟨Nat.le_of_ble_eq_true rfl, Nat.le_of_ble_eq_true rfl⟩ (sum8 rfl) er2 ?_
    refine g_if_eq X d_CT_isWish_14 21 (by decide) (fun q4 => ?_) (fun q4 => ?_)
    · have hf := ite_t q4 hf
      refine g_iconst X d_CT_isWish_21 (v := (nI 0)) rfl ?_
      exact g_zret X d_CT_isWish_22 hr hk9 rfl hf
    · have hf := ite_f q4 hf
      refine g_iconst X d_CT_isWish_17 (v := (nI 1)) rfl ?_
      refine g_goto X d_CT_isWish_18 22 (by decide) ?_
      exact g_zret X d_CT_isWish_22 hr hk9 rfl hf
section
variable {R : Room} {kc ks : Nat} {Q : State → Prop} {nL : Nat} {cc : ByteArray} {own : String} {pc : Nat} {lv lv' : List (Nat × Value)} {st : List Value}
theorem ca_CT_isWish {x1 : Int32} (X : Cx Γ p R s m args c cc nL own kc ks) {idx : Nat} (hd : decode cc pc = .ok (.invokevirtual idx, 3)) (hlk : Cond.methodLink own idx y_CT_isWish ∈ lw_gt) (hR : 2 + 1 ≤ R.frames ∧ 8 + (2 + 11) + 42 ≤ R.locals) (hw : (st.map fun v => v.category).sum ≤ 8) {σ σ' : Sg} {r : Int32} (hf : f_CT_isWish x1 σ = some (r, σ')) (k : G Γ p l e R s m args below meth c kc ks Q nL (pc + 3) lv (.int r :: st) σ') : G Γ p l e R s m args below meth c kc ks Q nL pc lv (.int x1 :: .ref (Γ.2.2.1 111) :: st) σ :=
  g_callV (As := [.int x1]) (rest := st) X hd (c_CT_isWish' hf) co_CT_isWish hlk wn_CT_isWish wse_CT_isWish (by decide) kd_111 rfl hR rfl rfl hw k
end
set_option maxRecDepth 10000 in
theorem c_ST_fillIn' {Γ : Gm} {l : Launch} {x1 : Int32} {x2 : Int32} {x3 : Int32} {x4 : Int32} {σ σ' : Sg} {r : Int32} (hf : f_ST_fillIn x1 x2 x3 x4 σ = some (r, σ')) : Ctr Γ l y_ST_fillIn c_ST_fillIn 5 none 1 22 [.ref (Γ.2.2.1 0), .int x1, .int x2, .int x3, .int x4] σ σ' none := by
  refine Ctr.of (lv := [(0, .ref (Γ.2.2.1 0)), (1, .int x1), (2, .int x2), (3, .int x3), (4, .int x4)]) (by decide +kernel) (Nat.le_of_ble_eq_true rfl) rfl ?_
  intro p e s m args below meth c X hr hk9
  have X : Cx Γ p (z_rm 1 22) s m args c c_ST_fillIn 5 "CaptionTallies$State" 0 0 := X
  rw [f_ST_fillIn] at hf
  refine g_aload_n X d_ST_fillIn_0 0 rfl ?_
  refine gf_0_9 X d_ST_fillIn_1 wl_ST_41 ?_
  refine g_iload_n X d_ST_fillIn_4 1 rfl ?_
  refine g_iconst X d_ST_fillIn_5 (v := (nI 3)) rfl ?_
  refine g_imul X d_ST_fillIn_6 ?_
  refine g_iload_n X d_ST_fillIn_7 2 rfl ?_
  obtain ⟨r1, σ2, er1, hf⟩ := bd_some hf
  refine can_CT_put X d_ST_fillIn_8 wl_ST_98 ⟨Nat.le_of_ble_eq_true rfl, Nat.le_of_ble_eq_true rfl⟩ (sum8 rfl) kd_9 er1 ?_
  refine g_aload_n X d_ST_fillIn_11 0 rfl ?_
  refine gf_0_9 X d_ST_fillIn_12 wl_ST_41 ?_
  refine g_iload_n X d_ST_fillIn_15 1 rfl ?_
  refine g_iconst X d_ST_fillIn_16 (v := (nI 3)) rfl ?_
  refine g_imul X d_ST_fillIn_17 ?_
  refine g_iconst X d_ST_fillIn_18 (v := (nI 1)) rfl ?_
  refine g_iadd X d_ST_fillIn_19 ?_
  refine g_iload_n X d_ST_fillIn_20 3 rfl ?_
  obtain ⟨r3, σ4, er3, hf⟩ := bd_some hf
  refine can_CT_put X d_ST_fillIn_21 wl_ST_98 ⟨Nat.le_of_ble_eq_true rfl, Nat.le_of_ble_eq_true rfl⟩ (sum8 rfl) kd_9 er3 ?_
  refine g_aload_n X d_ST_fillIn_24 0 rfl ?_
  refine gf_0_9 X d_ST_fillIn_25 wl_ST_41 ?_
  refine g_iload_n X d_ST_fillIn_28 1 rfl ?_
  refine g_iconst X d_ST_fillIn_29 (v := (nI 3)) rfl ?_
  refine g_imul X d_ST_fillIn_30 ?_
  refine g_iconst X d_ST_fillIn_31 (v := (nI 2)) rfl ?_
  refine g_iadd X d_ST_fillIn_32 ?_
  refine g_iload X d_ST_fillIn_33 4 rfl ?_
  obtain ⟨r5, σ6, er5, hf⟩ := bd_some hf
  refine can_CT_put X d_ST_fillIn_35 wl_ST_98 ⟨Nat.le_of_ble_eq_true rfl, Nat.le_of_ble_eq_true rfl⟩ (sum8 rfl) kd_9 er5 ?_
  exact g_vret X d_ST_fillIn_38 hr hk9 hf
section
variable {R : Room} {kc ks : Nat} {Q : State → Prop} {nL : Nat} {cc : ByteArray} {own : String} {pc : Nat} {lv lv' : List (Nat × Value)} {st : List Value}
theorem ca_ST_fillIn {x1 : Int32} {x2 : Int32} {x3 : Int32} {x4 : Int32} (X : Cx Γ p R s m args c cc nL own kc ks) {idx : Nat} (hd : decode cc pc = .ok (.invokevirtual idx, 3)) (hlk : Cond.methodLink own idx y_ST_fillIn ∈ lw_gt) (hR : 1 + 1 ≤ R.frames ∧ 8 + (5 + 11) + 22 ≤ R.locals) (hw : (st.map fun v => v.category).sum ≤ 8) {σ σ' : Sg} {r : Int32} (hf : f_ST_fillIn x1 x2 x3 x4 σ = some (r, σ')) (k : G Γ p l e R s m args below meth c kc ks Q nL (pc + 3) lv (st) σ') : G Γ p l e R s m args below meth c kc ks Q nL pc lv (.int x4 :: .int x3 :: .int x2 :: .int x1 :: .ref (Γ.2.2.1 0) :: st) σ :=
  g_callV (As := [.int x1, .int x2, .int x3, .int x4]) (rest := st) X hd (c_ST_fillIn' hf) co_ST_fillIn hlk wn_ST_fillIn wse_ST_fillIn (by decide) kd_0 rfl hR rfl rfl hw k
end
set_option maxRecDepth 10000 in
theorem c_ST_wish' {Γ : Gm} {l : Launch} {x1 : Int32} {x2 : Int32} {σ σ' : Sg} {r : Int32} (hf : f_ST_wish x1 x2 σ = some (r, σ')) : Ctr Γ l y_ST_wish c_ST_wish 3 (some .int) 1 21 [.ref (Γ.2.2.1 0), .int x1, .int x2] σ σ' (some (.int r)) := by
  refine Ctr.of (lv := [(0, .ref (Γ.2.2.1 0)), (1, .int x1), (2, .int x2)]) (by decide +kernel) (Nat.le_of_ble_eq_true rfl) rfl ?_
  intro p e s m args below meth c X hr hk9
  have X : Cx Γ p (z_rm 1 21) s m args c c_ST_wish 3 "CaptionTallies$State" 0 0 := X
  rw [f_ST_wish] at hf
  refine g_aload_n X d_ST_wish_0 0 rfl ?_
  refine gf_0_9 X d_ST_wish_1 wl_ST_41 ?_
  refine g_iload_n X d_ST_wish_4 1 rfl ?_
  refine g_iconst X d_ST_wish_5 (v := (nI 3)) rfl ?_
  refine g_imul X d_ST_wish_6 ?_
  refine g_iload_n X d_ST_wish_7 2 rfl ?_
  refine g_iadd X d_ST_wish_8 ?_
  obtain ⟨r1, σ2, er1, hf⟩ := bd_some hf
  refine can_CT_at X d_ST_wish_9 wl_ST_117 ⟨Nat.le_of_ble_eq_true rfl, Nat.le_of_ble_eq_true rfl⟩ (sum8 rfl) kd_9 er1 ?_
  exact g_iret X d_ST_wish_12 hr hk9 hf
section
variable {R : Room} {kc ks : Nat} {Q : State → Prop} {nL : Nat} {cc : ByteArray} {own : String} {pc : Nat} {lv lv' : List (Nat × Value)} {st : List Value}
theorem ca_ST_wish {x1 : Int32} {x2 : Int32} (X : Cx Γ p R s m args c cc nL own kc ks) {idx : Nat} (hd : decode cc pc = .ok (.invokevirtual idx, 3)) (hlk : Cond.methodLink own idx y_ST_wish ∈ lw_gt) (hR : 1 + 1 ≤ R.frames ∧ 8 + (3 + 11) + 21 ≤ R.locals) (hw : (st.map fun v => v.category).sum ≤ 8) {σ σ' : Sg} {r : Int32} (hf : f_ST_wish x1 x2 σ = some (r, σ')) (k : G Γ p l e R s m args below meth c kc ks Q nL (pc + 3) lv (.int r :: st) σ') : G Γ p l e R s m args below meth c kc ks Q nL pc lv (.int x2 :: .int x1 :: .ref (Γ.2.2.1 0) :: st) σ :=
  g_callV (As := [.int x1, .int x2]) (rest := st) X hd (c_ST_wish' hf) co_ST_wish hlk wn_ST_wish wse_ST_wish (by decide) kd_0 rfl hR rfl rfl hw k
end
set_option maxRecDepth 10000 in
theorem c_ST_isFilledIn' {Γ : Gm} {l : Launch} {x1 : Int32} {x2 : Int32} {x3 : Int32} {x4 : Int32} {σ σ' : Sg} {r : Int32} (hf : f_ST_isFilledIn x1 x2 x3 x4 σ = some (r, σ')) : Ctr Γ l y_ST_isFilledIn c_ST_isFilledIn 5 (some .boolean) 2 43 [.ref (Γ.2.2.1 0), .int x1, .int x2, .int x3, .int x4] σ σ' (some (.int r)) := by
  refine Ctr.of (lv := [(0, .ref (Γ.2.2.1 0)), (1, .int x1), (2, .int x2), (3, .int x3), (4, .int x4)]) (by decide +kernel) (Nat.le_of_ble_eq_true rfl) rfl ?_
  intro p e s m args below meth c X hr hk9
  have X : Cx Γ p (z_rm 2 43) s m args c c_ST_isFilledIn 5 "CaptionTallies$State" 0 0 := X
  rw [f_ST_isFilledIn] at hf
  refine g_aload_n X d_ST_isFilledIn_0 0 rfl ?_
  refine g_iload_n X d_ST_isFilledIn_1 1 rfl ?_
  refine g_iconst X d_ST_isFilledIn_2 (v := (nI 0)) rfl ?_
  obtain ⟨r1, σ2, er1, hf⟩ := bd_some hf
  refine ca_ST_wish X d_ST_isFilledIn_3 wl_ST_131 ⟨Nat.le_of_ble_eq_true rfl, Nat.le_of_ble_eq_true rfl⟩ (sum8 rfl) er1 ?_
  refine g_iload_n X d_ST_isFilledIn_6 2 rfl ?_
  refine g_ic_ne X d_ST_isFilledIn_7 35 (by decide) (fun q3 => ?_) (fun q3 => ?_)
  · have hf := ite_f q3 hf
    refine g_iconst X d_ST_isFilledIn_35 (v := (nI 0)) rfl ?_
    exact g_zret X d_ST_isFilledIn_36 hr hk9 rfl hf
  · have hf := ite_t q3 hf
    refine g_aload_n X d_ST_isFilledIn_10 0 rfl ?_
    refine g_iload_n X d_ST_isFilledIn_11 1 rfl ?_
    refine g_iconst X d_ST_isFilledIn_12 (v := (nI 1)) rfl ?_
    obtain ⟨r4, σ5, er4, hf⟩ := bd_some hf
    refine ca_ST_wish X d_ST_isFilledIn_13 wl_ST_131 ⟨Nat.le_of_ble_eq_true rfl, Nat.le_of_ble_eq_true rfl⟩ (sum8 rfl) er4 ?_
    refine g_iload_n X d_ST_isFilledIn_16 3 rfl ?_
    refine g_ic_ne X d_ST_isFilledIn_17 35 (by decide) (fun q6 => ?_) (fun q6 => ?_)
    · have hf := ite_f q6 hf
      refine g_iconst X d_ST_isFilledIn_35 (v := (nI 0)) rfl ?_
      exact g_zret X d_ST_isFilledIn_36 hr hk9 rfl hf
    · have hf := ite_t q6 hf
      refine g_aload_n X d_ST_isFilledIn_20 0 rfl ?_
      refine g_iload_n X d_ST_isFilledIn_21 1 rfl ?_
      refine g_iconst X d_ST_isFilledIn_22 (v := (nI 2)) rfl ?_
      obtain ⟨r7, σ8, er7, hf⟩ := bd_some hf
      refine ca_ST_wish X d_ST_isFilledIn_23 wl_ST_131 ⟨Nat.le_of_ble_eq_true rfl, Nat.le_of_ble_eq_true rfl⟩ (sum8 rfl) er7 ?_
      refine g_iload X d_ST_isFilledIn_26 4 rfl ?_
      refine g_ic_ne X d_ST_isFilledIn_28 35 (by decide) (fun q9 => ?_) (fun q9 => ?_)
      · have hf := ite_f q9 hf
        refine g_iconst X d_ST_isFilledIn_35 (v := (nI 0)) rfl ?_
        exact g_zret X d_ST_isFilledIn_36 hr hk9 rfl hf
      · have hf := ite_t q9 hf
        refine g_iconst X d_ST_isFilledIn_31 (v := (nI 1)) rfl ?_
        refine g_goto X d_ST_isFilledIn_32 36 (by decide) ?_
        exact g_zret X d_ST_isFilledIn_36 hr hk9 rfl hf
section
variable {R : Room} {kc ks : Nat} {Q : State → Prop} {nL : Nat} {cc : ByteArray} {own : String} {pc : Nat} {lv lv' : List (Nat × Value)} {st : List Value}
theorem ca_ST_isFilledIn {x1 : Int32} {x2 : Int32} {x3 : Int32} {x4 : Int32} (X : Cx Γ p R s m args c cc nL own kc ks) {idx : Nat} (hd : decode cc pc = .ok (.invokevirtual idx, 3)) (hlk : Cond.methodLink own idx y_ST_isFilledIn ∈ lw_gt) (hR : 2 + 1 ≤ R.frames ∧ 8 + (5 + 11) + 43 ≤ R.locals) (hw : (st.map fun v => v.category).sum ≤ 8) {σ σ' : Sg} {r : Int32} (hf : f_ST_isFilledIn x1 x2 x3 x4 σ = some (r, σ')) (k : G Γ p l e R s m args below meth c kc ks Q nL (pc + 3) lv (.int r :: st) σ') : G Γ p l e R s m args below meth c kc ks Q nL pc lv (.int x4 :: .int x3 :: .int x2 :: .int x1 :: .ref (Γ.2.2.1 0) :: st) σ :=
  g_callV (As := [.int x1, .int x2, .int x3, .int x4]) (rest := st) X hd (c_ST_isFilledIn' hf) co_ST_isFilledIn hlk wn_ST_isFilledIn wse_ST_isFilledIn (by decide) kd_0 rfl hR rfl rfl hw k
end
set_option maxRecDepth 10000 in
theorem w_ST_wishesOf_4 {r : Int32} {σ' : Sg} (X : Cx Γ p (z_rm 2 43) s m args c c_ST_wishesOf 4 "CaptionTallies$State" 0 0) (hr : meth.sig.returnType = (some .int)) (hk9 : meth.locks = false) : ∀ (n9 : Nat) (x1 : Int32) (x2 : Int32) (x3 : Int32) (σ : Sg), f_ST_wishesOf_4 n9 x1 x2 x3 σ = some (r, σ') → G Γ p l e (z_rm 2 43) s m args below meth c 0 0 (MQ below (Qx Γ (some (.int r)) σ') args s 0 0 (fun q : Nat => Γ.2.2.2 ≤ q)) 4 4 [(0, .ref (Γ.2.2.1 0)), (1, .int x1), (2, .int x2), (3, .int x3)] [] σ := by
  intro n9
  induction n9 with
  | zero => intro x1 x2 x3 σ hf; cases hf
  | succ n9 ih =>
    intro x1 x2 x3 σ hf
    rw [f_ST_wishesOf_4] at hf
    refine g_iload_n X d_ST_wishesOf_4 3 rfl ?_
    refine g_iconst X d_ST_wishesOf_5 (v := (nI 3)) rfl ?_
    refine g_ic_ge X d_ST_wishesOf_6 29 (by decide) (fun q1 => ?_) (fun q1 => ?_)
    · have hf := ite_t q1 hf
      refine g_iload_n X d_ST_wishesOf_29 2 rfl ?_
      exact g_iret X d_ST_wishesOf_30 hr hk9 hf
    · have hf := ite_f q1 hf
      refine g_aload_n X d_ST_wishesOf_9 0 rfl ?_
      refine g_iload_n X d_ST_wishesOf_10 1 rfl ?_
      refine g_iload_n X d_ST_wishesOf_11 3 rfl ?_
      obtain ⟨r2, σ3, er2, hf⟩ := bd_some hf
      refine ca_ST_wish X d_ST_wishesOf_12 wl_ST_131 ⟨Nat.le_of_ble_eq_true rfl, Nat.le_of_ble_eq_true rfl⟩ (sum8 rfl) er2 ?_
      refine g_bipush X d_ST_wishesOf_15 (v := (-5)) rfl ?_
      refine g_ic_eq X d_ST_wishesOf_17 23 (by decide) (fun q4 => ?_) (fun q4 => ?_)
      · have hf := ite_t q4 hf
        refine g_iinc X d_ST_wishesOf_23 (j := 3) (lv' := [(3, .int (x3 + (nI 1))), (0, .ref (Γ.2.2.1 0)), (1, .int x1), (2, .int x2)]) rfl rfl (Nat.le_of_ble_eq_true rfl) rfl ?_
        refine g_goto X d_ST_wishesOf_26 4 (by decide) ?_
        refine g_sub [1, 2, 3, 0] rfl ?_
        exact ih _ _ _ _ hf
      · have hf := ite_f q4 hf
        refine g_iinc X d_ST_wishesOf_20 (j := 2) (lv' := [(2, .int (x2 + (nI 1))), (0, .ref (Γ.2.2.1 0)), (1, .int x1), (3, .int x3)]) rfl rfl (Nat.le_of_ble_eq_true rfl) rfl ?_
        refine g_iinc X d_ST_wishesOf_23 (j := 3) (lv' := [(3, .int (x3 + (nI 1))), (2, .int (x2 + (nI 1))), (0, .ref (Γ.2.2.1 0)), (1, .int x1)]) rfl rfl (Nat.le_of_ble_eq_true rfl) rfl ?_
        refine g_goto X d_ST_wishesOf_26 4 (by decide) ?_
        refine g_sub [2, 3, 1, 0] rfl ?_
        exact ih _ _ _ _ hf
set_option maxRecDepth 10000 in
theorem c_ST_wishesOf' {Γ : Gm} {l : Launch} {x1 : Int32} {σ σ' : Sg} {r : Int32} (hf : f_ST_wishesOf x1 σ = some (r, σ')) : Ctr Γ l y_ST_wishesOf c_ST_wishesOf 4 (some .int) 2 43 [.ref (Γ.2.2.1 0), .int x1] σ σ' (some (.int r)) := by
  refine Ctr.of (lv := [(0, .ref (Γ.2.2.1 0)), (1, .int x1)]) (by decide +kernel) (Nat.le_of_ble_eq_true rfl) rfl ?_
  intro p e s m args below meth c X hr hk9
  have X : Cx Γ p (z_rm 2 43) s m args c c_ST_wishesOf 4 "CaptionTallies$State" 0 0 := X
  rw [f_ST_wishesOf] at hf
  refine g_iconst X d_ST_wishesOf_0 (v := (nI 0)) rfl ?_
  refine g_istore_n X d_ST_wishesOf_1 rfl (lv' := [(2, .int (nI 0)), (0, .ref (Γ.2.2.1 0)), (1, .int x1)]) (Nat.le_of_ble_eq_true rfl) rfl ?_
  refine g_iconst X d_ST_wishesOf_2 (v := (nI 0)) rfl ?_
  refine g_istore_n X d_ST_wishesOf_3 rfl (lv' := [(3, .int (nI 0)), (2, .int (nI 0)), (0, .ref (Γ.2.2.1 0)), (1, .int x1)]) (Nat.le_of_ble_eq_true rfl) rfl ?_
  refine g_sub [2, 3, 1, 0] rfl ?_
  exact w_ST_wishesOf_4 X hr hk9 _ _ _ _ _ hf
section
variable {R : Room} {kc ks : Nat} {Q : State → Prop} {nL : Nat} {cc : ByteArray} {own : String} {pc : Nat} {lv lv' : List (Nat × Value)} {st : List Value}
theorem ca_ST_wishesOf {x1 : Int32} (X : Cx Γ p R s m args c cc nL own kc ks) {idx : Nat} (hd : decode cc pc = .ok (.invokevirtual idx, 3)) (hlk : Cond.methodLink own idx y_ST_wishesOf ∈ lw_gt) (hR : 2 + 1 ≤ R.frames ∧ 8 + (4 + 11) + 43 ≤ R.locals) (hw : (st.map fun v => v.category).sum ≤ 8) {σ σ' : Sg} {r : Int32} (hf : f_ST_wishesOf x1 σ = some (r, σ')) (k : G Γ p l e R s m args below meth c kc ks Q nL (pc + 3) lv (.int r :: st) σ') : G Γ p l e R s m args below meth c kc ks Q nL pc lv (.int x1 :: .ref (Γ.2.2.1 0) :: st) σ :=
  g_callV (As := [.int x1]) (rest := st) X hd (c_ST_wishesOf' hf) co_ST_wishesOf hlk wn_ST_wishesOf wse_ST_wishesOf (by decide) kd_0 rfl hR rfl rfl hw k
end
set_option maxRecDepth 10000 in
theorem c_CT_vote' {Γ : Gm} {l : Launch} {x1 : Int32} {x2 : Int32} {x3 : Int32} {x4 : Int32} {σ σ' : Sg} {r : Int32} (hf : f_CT_vote x1 x2 x3 x4 σ = some (r, σ')) : Ctr Γ l y_CT_vote c_CT_vote 5 (some .int) 4 81 [.ref (Γ.2.2.1 111), .int x1, .int x2, .int x3, .int x4] σ σ' (some (.int r)) := by
  refine Ctr.of (lv := [(0, .ref (Γ.2.2.1 111)), (1, .int x1), (2, .int x2), (3, .int x3), (4, .int x4)]) (by decide +kernel) (Nat.le_of_ble_eq_true rfl) rfl ?_
  intro p e s m args below meth c X hr hk9
  have X : Cx Γ p (z_rm 4 81) s m args c c_CT_vote 5 "CaptionTallies" 0 0 := X
  rw [f_CT_vote] at hf
  refine g_iload_n X d_CT_vote_0 1 rfl ?_
  refine g_bipush X d_CT_vote_1 (v := (nI 12)) rfl ?_
  obtain ⟨r1, σ2, er1, hf⟩ := bd_some hf
  refine ca_CT_isIndex X d_CT_vote_3 wl_CT_86 ⟨Nat.le_of_ble_eq_true rfl, Nat.le_of_ble_eq_true rfl⟩ (sum8 rfl) er1 ?_
  refine g_if_ne X d_CT_vote_6 11 (by decide) (fun q3 => ?_) (fun q3 => ?_)
  · have hf := ite_f q3 hf
    refine g_aload_n X d_CT_vote_11 0 rfl ?_
    refine g_iload_n X d_CT_vote_12 2 rfl ?_
    obtain ⟨r4, σ5, er4, hf⟩ := bd_some hf
    refine ca_CT_isWish X d_CT_vote_13 wl_CT_133 ⟨Nat.le_of_ble_eq_true rfl, Nat.le_of_ble_eq_true rfl⟩ (sum8 rfl) er4 ?_
    refine g_if_eq X d_CT_vote_16 36 (by decide) (fun q6 => ?_) (fun q6 => ?_)
    · have hf := ite_t q6 hf
      refine g_iconst X d_CT_vote_36 (v := (-1)) rfl ?_
      exact g_iret X d_CT_vote_37 hr hk9 hf
    · have hf := ite_f q6 hf
      refine g_aload_n X d_CT_vote_19 0 rfl ?_
      refine g_iload_n X d_CT_vote_20 3 rfl ?_
      obtain ⟨r7, σ8, er7, hf⟩ := bd_some hf
      refine ca_CT_isWish X d_CT_vote_21 wl_CT_133 ⟨Nat.le_of_ble_eq_true rfl, Nat.le_of_ble_eq_true rfl⟩ (sum8 rfl) er7 ?_
      refine g_if_eq X d_CT_vote_24 36 (by decide) (fun q9 => ?_) (fun q9 => ?_)
      · have hf := ite_t q9 hf
        refine g_iconst X d_CT_vote_36 (v := (-1)) rfl ?_
        exact g_iret X d_CT_vote_37 hr hk9 hf
      · have hf := ite_f q9 hf
        refine g_aload_n X d_CT_vote_27 0 rfl ?_
        refine g_iload X d_CT_vote_28 4 rfl ?_
        obtain ⟨r10, σ11, er10, hf⟩ := bd_some hf
        refine ca_CT_isWish X d_CT_vote_30 wl_CT_133 ⟨Nat.le_of_ble_eq_true rfl, Nat.le_of_ble_eq_true rfl⟩ (sum8 rfl) er10 ?_
        refine g_if_ne X d_CT_vote_33 38 (by decide) (fun q12 => ?_) (fun q12 => ?_)
        · have hf := ite_f q12 hf
          refine g_iload_n X d_CT_vote_38 2 rfl ?_
          refine g_iload_n X d_CT_vote_39 3 rfl ?_
          refine g_iload X d_CT_vote_40 4 rfl ?_
          obtain ⟨r13, σ14, er13, hf⟩ := bd_some hf
          refine ca_CT_hasGap X d_CT_vote_42 wl_CT_136 ⟨Nat.le_of_ble_eq_true rfl, Nat.le_of_ble_eq_true rfl⟩ (sum8 rfl) er13 ?_
          refine g_if_ne X d_CT_vote_45 58 (by decide) (fun q15 => ?_) (fun q15 => ?_)
          · have hf := ite_f q15 hf
            refine g_bipush X d_CT_vote_58 (v := (-2)) rfl ?_
            exact g_iret X d_CT_vote_60 hr hk9 hf
          · have hf := ite_t q15 hf
            refine g_iload_n X d_CT_vote_48 2 rfl ?_
            refine g_iload_n X d_CT_vote_49 3 rfl ?_
            refine g_iload X d_CT_vote_50 4 rfl ?_
            obtain ⟨r16, σ17, er16, hf⟩ := bd_some hf
            refine ca_CT_isTwice X d_CT_vote_52 wl_CT_140 ⟨Nat.le_of_ble_eq_true rfl, Nat.le_of_ble_eq_true rfl⟩ (sum8 rfl) er16 ?_
            refine g_if_eq X d_CT_vote_55 61 (by decide) (fun q18 => ?_) (fun q18 => ?_)
            · have hf := ite_t q18 hf
              refine g_aload_n X d_CT_vote_61 0 rfl ?_
              refine gf_111_1 X d_CT_vote_62 wl_CT_19 ?_
              refine g_iload_n X d_CT_vote_65 1 rfl ?_
              refine g_iload_n X d_CT_vote_66 2 rfl ?_
              refine g_iload_n X d_CT_vote_67 3 rfl ?_
              refine g_iload X d_CT_vote_68 4 rfl ?_
              obtain ⟨r19, σ20, er19, hf⟩ := bd_some hf
              refine ca_ST_isFilledIn X d_CT_vote_70 wl_CT_143 ⟨Nat.le_of_ble_eq_true rfl, Nat.le_of_ble_eq_true rfl⟩ (sum8 rfl) er19 ?_
              refine g_if_eq X d_CT_vote_73 79 (by decide) (fun q21 => ?_) (fun q21 => ?_)
              · have hf := ite_t q21 hf
                refine g_aload_n X d_CT_vote_79 0 rfl ?_
                refine gf_111_2 X d_CT_vote_80 wl_CT_26 ?_
                refine g_aload_n X d_CT_vote_83 0 rfl ?_
                refine gf_111_1 X d_CT_vote_84 wl_CT_19 ?_
                obtain ⟨r22, σ23, er22, hf⟩ := bd_some hf
                refine ca_HI_record X d_CT_vote_87 wl_CT_97 ⟨Nat.le_of_ble_eq_true rfl, Nat.le_of_ble_eq_true rfl⟩ (sum8 rfl) er22 ?_
                refine g_aload_n X d_CT_vote_90 0 rfl ?_
                refine gf_111_1 X d_CT_vote_91 wl_CT_19 ?_
                refine g_iload_n X d_CT_vote_94 1 rfl ?_
                refine g_iload_n X d_CT_vote_95 2 rfl ?_
                refine g_iload_n X d_CT_vote_96 3 rfl ?_
                refine g_iload X d_CT_vote_97 4 rfl ?_
                obtain ⟨r24, σ25, er24, hf⟩ := bd_some hf
                refine ca_ST_fillIn X d_CT_vote_99 wl_CT_147 ⟨Nat.le_of_ble_eq_true rfl, Nat.le_of_ble_eq_true rfl⟩ (sum8 rfl) er24 ?_
                refine g_aload_n X d_CT_vote_102 0 rfl ?_
                refine gf_111_1 X d_CT_vote_103 wl_CT_19 ?_
                refine g_iload_n X d_CT_vote_106 1 rfl ?_
                obtain ⟨r26, σ27, er26, hf⟩ := bd_some hf
                refine ca_ST_wishesOf X d_CT_vote_107 wl_CT_151 ⟨Nat.le_of_ble_eq_true rfl, Nat.le_of_ble_eq_true rfl⟩ (sum8 rfl) er26 ?_
                exact g_iret X d_CT_vote_110 hr hk9 hf
              · have hf := ite_f q21 hf
                refine g_bipush X d_CT_vote_76 (v := (-5)) rfl ?_
                exact g_iret X d_CT_vote_78 hr hk9 hf
            · have hf := ite_f q18 hf
              refine g_bipush X d_CT_vote_58 (v := (-2)) rfl ?_
              exact g_iret X d_CT_vote_60 hr hk9 hf
        · have hf := ite_t q12 hf
          refine g_iconst X d_CT_vote_36 (v := (-1)) rfl ?_
          exact g_iret X d_CT_vote_37 hr hk9 hf
  · have hf := ite_t q3 hf
    refine g_iconst X d_CT_vote_9 (v := (-1)) rfl ?_
    exact g_iret X d_CT_vote_10 hr hk9 hf
section
variable {R : Room} {kc ks : Nat} {Q : State → Prop} {nL : Nat} {cc : ByteArray} {own : String} {pc : Nat} {lv lv' : List (Nat × Value)} {st : List Value}
theorem ca_CT_vote {x1 : Int32} {x2 : Int32} {x3 : Int32} {x4 : Int32} (X : Cx Γ p R s m args c cc nL own kc ks) {idx : Nat} (hd : decode cc pc = .ok (.invokevirtual idx, 3)) (hlk : Cond.methodLink own idx y_CT_vote ∈ lw_gt) (hR : 4 + 1 ≤ R.frames ∧ 8 + (5 + 11) + 81 ≤ R.locals) (hw : (st.map fun v => v.category).sum ≤ 8) {σ σ' : Sg} {r : Int32} (hf : f_CT_vote x1 x2 x3 x4 σ = some (r, σ')) (k : G Γ p l e R s m args below meth c kc ks Q nL (pc + 3) lv (.int r :: st) σ') : G Γ p l e R s m args below meth c kc ks Q nL pc lv (.int x4 :: .int x3 :: .int x2 :: .int x1 :: .ref (Γ.2.2.1 111) :: st) σ :=
  g_callV (As := [.int x1, .int x2, .int x3, .int x4]) (rest := st) X hd (c_CT_vote' hf) co_CT_vote hlk wn_CT_vote wse_CT_vote (by decide) kd_111 rfl hR rfl rfl hw k
end
set_option maxRecDepth 10000 in
theorem c_RA_pointsBy' {Γ : Gm} {l : Launch} {x1 : Int32} {x2 : Int32} {σ σ' : Sg} {r : Int32} (hf : f_RA_pointsBy x1 x2 σ = some (r, σ')) : Ctr Γ l y_RA_pointsBy c_RA_pointsBy 3 (some .int) 1 21 [.ref (Γ.2.2.1 89), .int x1, .int x2] σ σ' (some (.int r)) := by
  refine Ctr.of (lv := [(0, .ref (Γ.2.2.1 89)), (1, .int x1), (2, .int x2)]) (by decide +kernel) (Nat.le_of_ble_eq_true rfl) rfl ?_
  intro p e s m args below meth c X hr hk9
  have X : Cx Γ p (z_rm 1 21) s m args c c_RA_pointsBy 3 "CaptionTallies$Ranks" 0 0 := X
  rw [f_RA_pointsBy] at hf
  refine g_aload_n X d_RA_pointsBy_0 0 rfl ?_
  refine gf_89_0 X d_RA_pointsBy_1 wl_RA_9 ?_
  refine g_iload_n X d_RA_pointsBy_4 1 rfl ?_
  refine g_bipush X d_RA_pointsBy_5 (v := (nI 20)) rfl ?_
  refine g_imul X d_RA_pointsBy_7 ?_
  refine g_iload_n X d_RA_pointsBy_8 2 rfl ?_
  refine g_iadd X d_RA_pointsBy_9 ?_
  obtain ⟨r1, σ2, er1, hf⟩ := bd_some hf
  refine can_CT_at X d_RA_pointsBy_10 wl_RA_65 ⟨Nat.le_of_ble_eq_true rfl, Nat.le_of_ble_eq_true rfl⟩ (sum8 rfl) kd_90 er1 ?_
  exact g_iret X d_RA_pointsBy_13 hr hk9 hf
section
variable {R : Room} {kc ks : Nat} {Q : State → Prop} {nL : Nat} {cc : ByteArray} {own : String} {pc : Nat} {lv lv' : List (Nat × Value)} {st : List Value}
theorem ca_RA_pointsBy {x1 : Int32} {x2 : Int32} (X : Cx Γ p R s m args c cc nL own kc ks) {idx : Nat} (hd : decode cc pc = .ok (.invokevirtual idx, 3)) (hlk : Cond.methodLink own idx y_RA_pointsBy ∈ lw_gt) (hR : 1 + 1 ≤ R.frames ∧ 8 + (3 + 11) + 21 ≤ R.locals) (hw : (st.map fun v => v.category).sum ≤ 8) {σ σ' : Sg} {r : Int32} (hf : f_RA_pointsBy x1 x2 σ = some (r, σ')) (k : G Γ p l e R s m args below meth c kc ks Q nL (pc + 3) lv (.int r :: st) σ') : G Γ p l e R s m args below meth c kc ks Q nL pc lv (.int x2 :: .int x1 :: .ref (Γ.2.2.1 89) :: st) σ :=
  g_callV (As := [.int x1, .int x2]) (rest := st) X hd (c_RA_pointsBy' hf) co_RA_pointsBy hlk wn_RA_pointsBy wse_RA_pointsBy (by decide) kd_89 rfl hR rfl rfl hw k
end
set_option maxRecDepth 10000 in
theorem c_ST_pointsBy' {Γ : Gm} {l : Launch} {x1 : Int32} {x2 : Int32} {σ σ' : Sg} {r : Int32} (hf : f_ST_pointsBy x1 x2 σ = some (r, σ')) : Ctr Γ l y_ST_pointsBy c_ST_pointsBy 3 (some .int) 1 21 [.ref (Γ.2.2.1 0), .int x1, .int x2] σ σ' (some (.int r)) := by
  refine Ctr.of (lv := [(0, .ref (Γ.2.2.1 0)), (1, .int x1), (2, .int x2)]) (by decide +kernel) (Nat.le_of_ble_eq_true rfl) rfl ?_
  intro p e s m args below meth c X hr hk9
  have X : Cx Γ p (z_rm 1 21) s m args c c_ST_pointsBy 3 "CaptionTallies$State" 0 0 := X
  rw [f_ST_pointsBy] at hf
  refine g_aload_n X d_ST_pointsBy_0 0 rfl ?_
  refine gf_0_10 X d_ST_pointsBy_1 wl_ST_44 ?_
  refine g_iload_n X d_ST_pointsBy_4 1 rfl ?_
  refine g_bipush X d_ST_pointsBy_5 (v := (nI 20)) rfl ?_
  refine g_imul X d_ST_pointsBy_7 ?_
  refine g_iload_n X d_ST_pointsBy_8 2 rfl ?_
  refine g_iadd X d_ST_pointsBy_9 ?_
  obtain ⟨r1, σ2, er1, hf⟩ := bd_some hf
  refine can_CT_at X d_ST_pointsBy_10 wl_ST_117 ⟨Nat.le_of_ble_eq_true rfl, Nat.le_of_ble_eq_true rfl⟩ (sum8 rfl) kd_10 er1 ?_
  exact g_iret X d_ST_pointsBy_13 hr hk9 hf
section
variable {R : Room} {kc ks : Nat} {Q : State → Prop} {nL : Nat} {cc : ByteArray} {own : String} {pc : Nat} {lv lv' : List (Nat × Value)} {st : List Value}
theorem ca_ST_pointsBy {x1 : Int32} {x2 : Int32} (X : Cx Γ p R s m args c cc nL own kc ks) {idx : Nat} (hd : decode cc pc = .ok (.invokevirtual idx, 3)) (hlk : Cond.methodLink own idx y_ST_pointsBy ∈ lw_gt) (hR : 1 + 1 ≤ R.frames ∧ 8 + (3 + 11) + 21 ≤ R.locals) (hw : (st.map fun v => v.category).sum ≤ 8) {σ σ' : Sg} {r : Int32} (hf : f_ST_pointsBy x1 x2 σ = some (r, σ')) (k : G Γ p l e R s m args below meth c kc ks Q nL (pc + 3) lv (.int r :: st) σ') : G Γ p l e R s m args below meth c kc ks Q nL pc lv (.int x2 :: .int x1 :: .ref (Γ.2.2.1 0) :: st) σ :=
  g_callV (As := [.int x1, .int x2]) (rest := st) X hd (c_ST_pointsBy' hf) co_ST_pointsBy hlk wn_ST_pointsBy wse_ST_pointsBy (by decide) kd_0 rfl hR rfl rfl hw k
end
set_option maxRecDepth 10000 in
theorem w_RA_fillPoints_3 {r : Int32} {σ' : Sg} (X : Cx Γ p (z_rm 2 43) s m args c c_RA_fillPoints 7 "CaptionTallies$Ranks" 0 0) (hr : meth.sig.returnType = none) (hk9 : meth.locks = false) : ∀ (n9 : Nat) (x3 : Int32) (x4 : Int32) (σ : Sg), f_RA_fillPoints_3 n9 x3 x4 σ = some (r, σ') → G Γ p l e (z_rm 2 43) s m args below meth c 0 0 (MQ below (Qx Γ none σ') args s 0 0 (fun q : Nat => Γ.2.2.2 ≤ q)) 7 3 [(0, .ref (Γ.2.2.1 89)), (1, .ref (Γ.2.2.1 0)), (2, .ref (Γ.2.2.1 82)), (3, .int x3), (4, .int x4)] [] σ := by
  intro n9
  induction n9 with
  | zero => intro x3 x4 σ hf; cases hf
  | succ n9 ih =>
    intro x3 x4 σ hf
    rw [f_RA_fillPoints_3] at hf
    refine g_iload X d_RA_fillPoints_3 4 rfl ?_
    refine g_bipush X d_RA_fillPoints_5 (v := (nI 20)) rfl ?_
    refine g_ic_ge X d_RA_fillPoints_7 66 (by decide) (fun q1 => ?_) (fun q1 => ?_)
    · have hf := ite_t q1 hf
      exact g_vret X d_RA_fillPoints_66 hr hk9 hf
    · have hf := ite_f q1 hf
      refine g_aload_n X d_RA_fillPoints_10 2 rfl ?_
      refine g_iload X d_RA_fillPoints_11 4 rfl ?_
      obtain ⟨r2, σ3, er2, hf⟩ := bd_some hf
      refine ca_GR_headOf X d_RA_fillPoints_13 wl_RA_35 ⟨Nat.le_of_ble_eq_true rfl, Nat.le_of_ble_eq_true rfl⟩ (sum8 rfl) er2 ?_
      refine g_istore X d_RA_fillPoints_16 (lv' := [(5, .int r2), (0, .ref (Γ.2.2.1 89)), (1, .ref (Γ.2.2.1 0)), (2, .ref (Γ.2.2.1 82)), (3, .int x3), (4, .int x4)]) (Nat.le_of_ble_eq_true rfl) rfl ?_
      refine g_iload X d_RA_fillPoints_18 0 rfl ?_
      refine g_bipush X d_RA_fillPoints_20 (v := (-5)) rfl ?_
      refine g_ic_eq X d_RA_fillPoints_22 60 (by decide) (fun q4 => ?_) (fun q4 => ?_)
      · have hf := ite_t q4 hf
        refine g_iinc X d_RA_fillPoints_60 (j := 5) (lv' := [(4, .int (x4 + (nI 1))), (5, .int r2), (0, .ref (Γ.2.2.1 89)), (1, .ref (Γ.2.2.1 0)), (2, .ref (Γ.2.2.1 82)), (3, .int x3)]) rfl rfl (Nat.le_of_ble_eq_true rfl) rfl ?_
        refine g_goto X d_RA_fillPoints_63 3 (by decide) ?_
        refine g_sub [2, 3, 4, 5, 0] rfl ?_
        exact ih _ _ _ hf
      · have hf := ite_f q4 hf
        refine g_aload_n X d_RA_fillPoints_25 1 rfl ?_
        refine g_iload_n X d_RA_fillPoints_26 4 rfl ?_
        refine g_iload X d_RA_fillPoints_27 0 rfl ?_
        obtain ⟨r5, σ6, er5, hf⟩ := bd_some hf
        refine ca_RA_pointsBy X d_RA_fillPoints_29 wl_RA_41 ⟨Nat.le_of_ble_eq_true rfl, Nat.le_of_ble_eq_true rfl⟩ (sum8 rfl) er5 ?_
        refine g_aload_n X d_RA_fillPoints_32 2 rfl ?_
        refine g_iload_n X d_RA_fillPoints_33 4 rfl ?_
        refine g_iload X d_RA_fillPoints_34 5 rfl ?_
        obtain ⟨r7, σ8, er7, hf⟩ := bd_some hf
        refine ca_ST_pointsBy X d_RA_fillPoints_36 wl_RA_45 ⟨Nat.le_of_ble_eq_true rfl, Nat.le_of_ble_eq_true rfl⟩ (sum8 rfl) er7 ?_
        refine g_mmax X d_RA_fillPoints_39 wl_RA_48 wm_max_s wi_MA wm_max_c ⟨Nat.le_of_ble_eq_true rfl, Nat.le_of_ble_eq_true rfl⟩ ?_
        obtain ⟨v9, ev9, hf⟩ := lt_ex hf
        refine g_top ev9 ?_
        refine g_istore X d_RA_fillPoints_42 (lv' := [(6, .int v9), (5, .int r2), (0, .ref (Γ.2.2.1 89)), (1, .ref (Γ.2.2.1 0)), (2, .ref (Γ.2.2.1 82)), (3, .int x3), (4, .int x4)]) (Nat.le_of_ble_eq_true rfl) rfl ?_
        refine g_aload_n X d_RA_fillPoints_44 2 rfl ?_
        refine gf_89_0 X d_RA_fillPoints_45 wl_RA_9 ?_
        refine g_iload_n X d_RA_fillPoints_48 5 rfl ?_
        refine g_bipush X d_RA_fillPoints_49 (v := (nI 20)) rfl ?_
        refine g_imul X d_RA_fillPoints_51 ?_
        refine g_iload X d_RA_fillPoints_52 1 rfl ?_
        refine g_iadd X d_RA_fillPoints_54 ?_
        refine g_iload X d_RA_fillPoints_55 0 rfl ?_
        obtain ⟨r10, σ11, er10, hf⟩ := bd_some hf
        refine can_CT_put X d_RA_fillPoints_57 wl_RA_53 ⟨Nat.le_of_ble_eq_true rfl, Nat.le_of_ble_eq_true rfl⟩ (sum8 rfl) kd_90 er10 ?_
        refine g_iinc X d_RA_fillPoints_60 (j := 6) (lv' := [(4, .int (x4 + (nI 1))), (6, .int v9), (5, .int r2), (0, .ref (Γ.2.2.1 89)), (1, .ref (Γ.2.2.1 0)), (2, .ref (Γ.2.2.1 82)), (3, .int x3)]) rfl rfl (Nat.le_of_ble_eq_true rfl) rfl ?_
        refine g_goto X d_RA_fillPoints_63 3 (by decide) ?_
        refine g_sub [3, 4, 5, 6, 0] rfl ?_
        exact ih _ _ _ hf
set_option maxRecDepth 10000 in
theorem c_RA_fillPoints' {Γ : Gm} {l : Launch} {x3 : Int32} {σ σ' : Sg} {r : Int32} (hf : f_RA_fillPoints x3 σ = some (r, σ')) : Ctr Γ l y_RA_fillPoints c_RA_fillPoints 7 none 2 43 [.ref (Γ.2.2.1 89), .ref (Γ.2.2.1 0), .ref (Γ.2.2.1 82), .int x3] σ σ' none := by
  refine Ctr.of (lv := [(0, .ref (Γ.2.2.1 89)), (1, .ref (Γ.2.2.1 0)), (2, .ref (Γ.2.2.1 82)), (3, .int x3)]) (by decide +kernel) (Nat.le_of_ble_eq_true rfl) rfl ?_
  intro p e s m args below meth c X hr hk9
  have X : Cx Γ p (z_rm 2 43) s m args c c_RA_fillPoints 7 "CaptionTallies$Ranks" 0 0 := X
  rw [f_RA_fillPoints] at hf
  refine g_iconst X d_RA_fillPoints_0 (v := (nI 0)) rfl ?_
  refine g_istore X d_RA_fillPoints_1 (lv' := [(4, .int (nI 0)), (0, .ref (Γ.2.2.1 89)), (1, .ref (Γ.2.2.1 0)), (2, .ref (Γ.2.2.1 82)), (3, .int x3)]) (Nat.le_of_ble_eq_true rfl) rfl ?_
  refine g_sub [1, 2, 3, 4, 0] rfl ?_
  exact w_RA_fillPoints_3 X hr hk9 _ _ _ _ hf
section
variable {R : Room} {kc ks : Nat} {Q : State → Prop} {nL : Nat} {cc : ByteArray} {own : String} {pc : Nat} {lv lv' : List (Nat × Value)} {st : List Value}
theorem ca_RA_fillPoints {x3 : Int32} (X : Cx Γ p R s m args c cc nL own kc ks) {idx : Nat} (hd : decode cc pc = .ok (.invokevirtual idx, 3)) (hlk : Cond.methodLink own idx y_RA_fillPoints ∈ lw_gt) (hR : 2 + 1 ≤ R.frames ∧ 8 + (7 + 11) + 43 ≤ R.locals) (hw : (st.map fun v => v.category).sum ≤ 8) {σ σ' : Sg} {r : Int32} (hf : f_RA_fillPoints x3 σ = some (r, σ')) (k : G Γ p l e R s m args below meth c kc ks Q nL (pc + 3) lv (st) σ') : G Γ p l e R s m args below meth c kc ks Q nL pc lv (.int x3 :: .ref (Γ.2.2.1 82) :: .ref (Γ.2.2.1 0) :: .ref (Γ.2.2.1 89) :: st) σ :=
  g_callV (As := [.ref (Γ.2.2.1 0), .ref (Γ.2.2.1 82), .int x3]) (rest := st) X hd (c_RA_fillPoints' hf) co_RA_fillPoints hlk wn_RA_fillPoints wse_RA_fillPoints (by decide) kd_89 rfl hR rfl rfl hw k
end
set_option maxRecDepth 10000 in
theorem c_GR_isHead' {Γ : Gm} {l : Launch} {x1 : Int32} {σ σ' : Sg} {r : Int32} (hf : f_GR_isHead x1 σ = some (r, σ')) : Ctr Γ l y_GR_isHead c_GR_isHead 2 (some .boolean) 1 21 [.ref (Γ.2.2.1 82), .int x1] σ σ' (some (.int r)) := by
  refine Ctr.of (lv := [(0, .ref (Γ.2.2.1 82)), (1, .int x1)]) (by decide +kernel) (Nat.le_of_ble_eq_true rfl) rfl ?_
  intro p e s m args below meth c X hr hk9
  have X : Cx Γ p (z_rm 1 21) s m args c c_GR_isHead 2 "CaptionTallies$Groups" 0 0 := X
  rw [f_GR_isHead] at hf
  refine g_iload_n X d_GR_isHead_0 1 rfl ?_
  refine g_bipush X d_GR_isHead_1 (v := (nI 20)) rfl ?_
  obtain ⟨r1, σ2, er1, hf⟩ := bd_some hf
  refine can_CT_isIndex X d_GR_isHead_3 wl_GR_57 ⟨Nat.le_of_ble_eq_true rfl, Nat.le_of_ble_eq_true rfl⟩ (sum8 rfl) er1 ?_
  refine g_if_eq X d_GR_isHead_6 23 (by decide) (fun q3 => ?_) (fun q3 => ?_)
  · have hf := ite_t q3 hf
    refine g_iconst X d_GR_isHead_23 (v := (nI 0)) rfl ?_
    exact g_zret X d_GR_isHead_24 hr hk9 rfl hf
  · have hf := ite_f q3 hf
    refine g_aload_n X d_GR_isHead_9 0 rfl ?_
    refine gf_82_0 X d_GR_isHead_10 wl_GR_9 ?_
    refine g_iload_n X d_GR_isHead_13 1 rfl ?_
    obtain ⟨b4, hf⟩ := gd_some hf
    refine g_iald X d_GR_isHead_14 kd_83 b4 ?_
    refine g_iload_n X d_GR_isHead_15 1 rfl ?_
    refine g_ic_ne X d_GR_isHead_16 23 (by decide) (fun q5 => ?_) (fun q5 => ?_)
    · have hf := ite_f q5 hf
      refine g_iconst X d_GR_isHead_23 (v := (nI 0)) rfl ?_
      exact g_zret X d_GR_isHead_24 hr hk9 rfl hf
    · have hf := ite_t q5 hf
      refine g_iconst X d_GR_isHead_19 (v := (nI 1)) rfl ?_
      refine g_goto X d_GR_isHead_20 24 (by decide) ?_
      exact g_zret X d_GR_isHead_24 hr hk9 rfl hf
section
variable {R : Room} {kc ks : Nat} {Q : State → Prop} {nL : Nat} {cc : ByteArray} {own : String} {pc : Nat} {lv lv' : List (Nat × Value)} {st : List Value}
theorem ca_GR_isHead {x1 : Int32} (X : Cx Γ p R s m args c cc nL own kc ks) {idx : Nat} (hd : decode cc pc = .ok (.invokevirtual idx, 3)) (hlk : Cond.methodLink own idx y_GR_isHead ∈ lw_gt) (hR : 1 + 1 ≤ R.frames ∧ 8 + (2 + 11) + 21 ≤ R.locals) (hw : (st.map fun v => v.category).sum ≤ 8) {σ σ' : Sg} {r : Int32} (hf : f_GR_isHead x1 σ = some (r, σ')) (k : G Γ p l e R s m args below meth c kc ks Q nL (pc + 3) lv (.int r :: st) σ') : G Γ p l e R s m args below meth c kc ks Q nL pc lv (.int x1 :: .ref (Γ.2.2.1 82) :: st) σ :=
  g_callV (As := [.int x1]) (rest := st) X hd (c_GR_isHead' hf) co_GR_isHead hlk wn_GR_isHead wse_GR_isHead (by decide) kd_82 rfl hR rfl rfl hw k
end
set_option maxRecDepth 10000 in
theorem w_RA_groupsWithMore_6 {r : Int32} {σ' : Sg} (X : Cx Γ p (z_rm 2 43) s m args c c_RA_groupsWithMore 6 "CaptionTallies$Ranks" 0 0) (hr : meth.sig.returnType = (some .int)) (hk9 : meth.locks = false) : ∀ (n9 : Nat) (x2 : Int32) (x3 : Int32) (x4 : Int32) (x5 : Int32) (σ : Sg), f_RA_groupsWithMore_6 n9 x2 x3 x4 x5 σ = some (r, σ') → G Γ p l e (z_rm 2 43) s m args below meth c 0 0 (MQ below (Qx Γ (some (.int r)) σ') args s 0 0 (fun q : Nat => Γ.2.2.2 ≤ q)) 6 6 [(0, .ref (Γ.2.2.1 89)), (1, .ref (Γ.2.2.1 82)), (2, .int x2), (3, .int x3), (4, .int x4), (5, .int x5)] [] σ := by
  intro n9
  induction n9 with
  | zero => intro x2 x3 x4 x5 σ hf; cases hf
  | succ n9 ih =>
    intro x2 x3 x4 x5 σ hf
    rw [f_RA_groupsWithMore_6] at hf
    refine g_iload X d_RA_groupsWithMore_6 5 rfl ?_
    refine g_bipush X d_RA_groupsWithMore_8 (v := (nI 20)) rfl ?_
    refine g_ic_ge X d_RA_groupsWithMore_10 42 (by decide) (fun q1 => ?_) (fun q1 => ?_)
    · have hf := ite_t q1 hf
      refine g_iload X d_RA_groupsWithMore_42 4 rfl ?_
      exact g_iret X d_RA_groupsWithMore_44 hr hk9 hf
    · have hf := ite_f q1 hf
      refine g_aload_n X d_RA_groupsWithMore_13 1 rfl ?_
      refine g_iload X d_RA_groupsWithMore_14 5 rfl ?_
      obtain ⟨r2, σ3, er2, hf⟩ := bd_some hf
      refine ca_GR_isHead X d_RA_groupsWithMore_16 wl_RA_57 ⟨Nat.le_of_ble_eq_true rfl, Nat.le_of_ble_eq_true rfl⟩ (sum8 rfl) er2 ?_
      refine g_if_eq X d_RA_groupsWithMore_19 36 (by decide) (fun q4 => ?_) (fun q4 => ?_)
      · have hf := ite_t q4 hf
        refine g_iinc X d_RA_groupsWithMore_36 (j := 5) (lv' := [(5, .int (x5 + (nI 1))), (0, .ref (Γ.2.2.1 89)), (1, .ref (Γ.2.2.1 82)), (2, .int x2), (3, .int x3), (4, .int x4)]) rfl rfl (Nat.le_of_ble_eq_true rfl) rfl ?_
        refine g_goto X d_RA_groupsWithMore_39 6 (by decide) ?_
        refine g_sub [1, 2, 3, 4, 5, 0] rfl ?_
        exact ih _ _ _ _ _ hf
      · have hf := ite_f q4 hf
        refine g_aload_n X d_RA_groupsWithMore_22 0 rfl ?_
        refine g_iload_n X d_RA_groupsWithMore_23 2 rfl ?_
        refine g_iload X d_RA_groupsWithMore_24 5 rfl ?_
        obtain ⟨r5, σ6, er5, hf⟩ := bd_some hf
        refine ca_RA_pointsBy X d_RA_groupsWithMore_26 wl_RA_41 ⟨Nat.le_of_ble_eq_true rfl, Nat.le_of_ble_eq_true rfl⟩ (sum8 rfl) er5 ?_
        refine g_iload_n X d_RA_groupsWithMore_29 3 rfl ?_
        refine g_ic_le X d_RA_groupsWithMore_30 36 (by decide) (fun q7 => ?_) (fun q7 => ?_)
        · have hf := ite_t q7 hf
          refine g_iinc X d_RA_groupsWithMore_36 (j := 5) (lv' := [(5, .int (x5 + (nI 1))), (0, .ref (Γ.2.2.1 89)), (1, .ref (Γ.2.2.1 82)), (2, .int x2), (3, .int x3), (4, .int x4)]) rfl rfl (Nat.le_of_ble_eq_true rfl) rfl ?_
          refine g_goto X d_RA_groupsWithMore_39 6 (by decide) ?_
          refine g_sub [1, 2, 3, 4, 5, 0] rfl ?_
          exact ih _ _ _ _ _ hf
        · have hf := ite_f q7 hf
          refine g_iinc X d_RA_groupsWithMore_33 (j := 4) (lv' := [(4, .int (x4 + (nI 1))), (0, .ref (Γ.2.2.1 89)), (1, .ref (Γ.2.2.1 82)), (2, .int x2), (3, .int x3), (5, .int x5)]) rfl rfl (Nat.le_of_ble_eq_true rfl) rfl ?_
          refine g_iinc X d_RA_groupsWithMore_36 (j := 5) (lv' := [(5, .int (x5 + (nI 1))), (4, .int (x4 + (nI 1))), (0, .ref (Γ.2.2.1 89)), (1, .ref (Γ.2.2.1 82)), (2, .int x2), (3, .int x3)]) rfl rfl (Nat.le_of_ble_eq_true rfl) rfl ?_
          refine g_goto X d_RA_groupsWithMore_39 6 (by decide) ?_
          refine g_sub [2, 3, 4, 5, 1, 0] rfl ?_
          exact ih _ _ _ _ _ hf
set_option maxRecDepth 10000 in
theorem c_RA_groupsWithMore' {Γ : Gm} {l : Launch} {x2 : Int32} {x3 : Int32} {σ σ' : Sg} {r : Int32} (hf : f_RA_groupsWithMore x2 x3 σ = some (r, σ')) : Ctr Γ l y_RA_groupsWithMore c_RA_groupsWithMore 6 (some .int) 2 43 [.ref (Γ.2.2.1 89), .ref (Γ.2.2.1 82), .int x2, .int x3] σ σ' (some (.int r)) := by
  refine Ctr.of (lv := [(0, .ref (Γ.2.2.1 89)), (1, .ref (Γ.2.2.1 82)), (2, .int x2), (3, .int x3)]) (by decide +kernel) (Nat.le_of_ble_eq_true rfl) rfl ?_
  intro p e s m args below meth c X hr hk9
  have X : Cx Γ p (z_rm 2 43) s m args c c_RA_groupsWithMore 6 "CaptionTallies$Ranks" 0 0 := X
  rw [f_RA_groupsWithMore] at hf
  refine g_iconst X d_RA_groupsWithMore_0 (v := (nI 0)) rfl ?_
  refine g_istore X d_RA_groupsWithMore_1 (lv' := [(4, .int (nI 0)), (0, .ref (Γ.2.2.1 89)), (1, .ref (Γ.2.2.1 82)), (2, .int x2), (3, .int x3)]) (Nat.le_of_ble_eq_true rfl) rfl ?_
  refine g_iconst X d_RA_groupsWithMore_3 (v := (nI 0)) rfl ?_
  refine g_istore X d_RA_groupsWithMore_4 (lv' := [(5, .int (nI 0)), (4, .int (nI 0)), (0, .ref (Γ.2.2.1 89)), (1, .ref (Γ.2.2.1 82)), (2, .int x2), (3, .int x3)]) (Nat.le_of_ble_eq_true rfl) rfl ?_
  refine g_sub [2, 3, 4, 5, 1, 0] rfl ?_
  exact w_RA_groupsWithMore_6 X hr hk9 _ _ _ _ _ _ hf
section
variable {R : Room} {kc ks : Nat} {Q : State → Prop} {nL : Nat} {cc : ByteArray} {own : String} {pc : Nat} {lv lv' : List (Nat × Value)} {st : List Value}
theorem ca_RA_groupsWithMore {x2 : Int32} {x3 : Int32} (X : Cx Γ p R s m args c cc nL own kc ks) {idx : Nat} (hd : decode cc pc = .ok (.invokevirtual idx, 3)) (hlk : Cond.methodLink own idx y_RA_groupsWithMore ∈ lw_gt) (hR : 2 + 1 ≤ R.frames ∧ 8 + (6 + 11) + 43 ≤ R.locals) (hw : (st.map fun v => v.category).sum ≤ 8) {σ σ' : Sg} {r : Int32} (hf : f_RA_groupsWithMore x2 x3 σ = some (r, σ')) (k : G Γ p l e R s m args below meth c kc ks Q nL (pc + 3) lv (.int r :: st) σ') : G Γ p l e R s m args below meth c kc ks Q nL pc lv (.int x3 :: .int x2 :: .ref (Γ.2.2.1 82) :: .ref (Γ.2.2.1 89) :: st) σ :=
  g_callV (As := [.ref (Γ.2.2.1 82), .int x2, .int x3]) (rest := st) X hd (c_RA_groupsWithMore' hf) co_RA_groupsWithMore hlk wn_RA_groupsWithMore wse_RA_groupsWithMore (by decide) kd_89 rfl hR rfl rfl hw k
end
set_option maxRecDepth 10000 in
theorem w_RA_fillRanks_2 {r : Int32} {σ' : Sg} (X : Cx Γ p (z_rm 3 68) s m args c c_RA_fillRanks 5 "CaptionTallies$Ranks" 0 0) (hr : meth.sig.returnType = none) (hk9 : meth.locks = false) : ∀ (n9 : Nat) (x2 : Int32) (x3 : Int32) (σ : Sg), f_RA_fillRanks_2 n9 x2 x3 σ = some (r, σ') → G Γ p l e (z_rm 3 68) s m args below meth c 0 0 (MQ below (Qx Γ none σ') args s 0 0 (fun q : Nat => Γ.2.2.2 ≤ q)) 5 2 [(0, .ref (Γ.2.2.1 89)), (1, .ref (Γ.2.2.1 82)), (2, .int x2), (3, .int x3)] [] σ := by
  intro n9
  induction n9 with
  | zero => intro x2 x3 σ hf; cases hf
  | succ n9 ih =>
    intro x2 x3 σ hf
    rw [f_RA_fillRanks_2] at hf
    refine g_iload_n X d_RA_fillRanks_2 3 rfl ?_
    refine g_bipush X d_RA_fillRanks_3 (v := (nI 20)) rfl ?_
    refine g_ic_ge X d_RA_fillRanks_5 64 (by decide) (fun q1 => ?_) (fun q1 => ?_)
    · have hf := ite_t q1 hf
      exact g_vret X d_RA_fillRanks_64 hr hk9 hf
    · have hf := ite_f q1 hf
      refine g_aload_n X d_RA_fillRanks_8 1 rfl ?_
      refine g_iload_n X d_RA_fillRanks_9 3 rfl ?_
      obtain ⟨r2, σ3, er2, hf⟩ := bd_some hf
      refine ca_GR_isHead X d_RA_fillRanks_10 wl_RA_57 ⟨Nat.le_of_ble_eq_true rfl, Nat.le_of_ble_eq_true rfl⟩ (sum8 rfl) er2 ?_
      refine g_if_eq X d_RA_fillRanks_13 58 (by decide) (fun q4 => ?_) (fun q4 => ?_)
      · have hf := ite_t q4 hf
        refine g_iinc X d_RA_fillRanks_58 (j := 3) (lv' := [(3, .int (x3 + (nI 1))), (0, .ref (Γ.2.2.1 89)), (1, .ref (Γ.2.2.1 82)), (2, .int x2)]) rfl rfl (Nat.le_of_ble_eq_true rfl) rfl ?_
        refine g_goto X d_RA_fillRanks_61 2 (by decide) ?_
        refine g_sub [1, 2, 3, 0] rfl ?_
        exact ih _ _ _ hf
      · have hf := ite_f q4 hf
        refine g_iconst X d_RA_fillRanks_16 (v := (nI 1)) rfl ?_
        refine g_aload_n X d_RA_fillRanks_17 0 rfl ?_
        refine g_aload_n X d_RA_fillRanks_18 1 rfl ?_
        refine g_iload_n X d_RA_fillRanks_19 2 rfl ?_
        refine g_aload_n X d_RA_fillRanks_20 0 rfl ?_
        refine g_iload_n X d_RA_fillRanks_21 2 rfl ?_
        refine g_iload_n X d_RA_fillRanks_22 3 rfl ?_
        obtain ⟨r5, σ6, er5, hf⟩ := bd_some hf
        refine ca_RA_pointsBy X d_RA_fillRanks_23 wl_RA_41 ⟨Nat.le_of_ble_eq_true rfl, Nat.le_of_ble_eq_true rfl⟩ (sum8 rfl) er5 ?_
        obtain ⟨r7, σ8, er7, hf⟩ := bd_some hf
        refine ca_RA_groupsWithMore X d_RA_fillRanks_26 wl_RA_61 ⟨Nat.le_of_ble_eq_true rfl, Nat.le_of_ble_eq_true rfl⟩ (sum8 rfl) er7 ?_
        refine g_iadd X d_RA_fillRanks_29 ?_
        obtain ⟨v9, ev9, hf⟩ := lt_ex hf
        refine g_top ev9 ?_
        refine g_istore X d_RA_fillRanks_30 (lv' := [(4, .int v9), (0, .ref (Γ.2.2.1 89)), (1, .ref (Γ.2.2.1 82)), (2, .int x2), (3, .int x3)]) (Nat.le_of_ble_eq_true rfl) rfl ?_
        refine g_aload_n X d_RA_fillRanks_32 1 rfl ?_
        refine gf_89_1 X d_RA_fillRanks_33 wl_RA_15 ?_
        refine g_iload_n X d_RA_fillRanks_36 3 rfl ?_
        refine g_bipush X d_RA_fillRanks_37 (v := (nI 20)) rfl ?_
        refine g_imul X d_RA_fillRanks_39 ?_
        refine g_iload_n X d_RA_fillRanks_40 4 rfl ?_
        refine g_iadd X d_RA_fillRanks_41 ?_
        refine g_iload X d_RA_fillRanks_42 0 rfl ?_
        obtain ⟨r10, σ11, er10, hf⟩ := bd_some hf
        refine can_CT_put X d_RA_fillRanks_44 wl_RA_53 ⟨Nat.le_of_ble_eq_true rfl, Nat.le_of_ble_eq_true rfl⟩ (sum8 rfl) kd_91 er10 ?_
        refine g_aload_n X d_RA_fillRanks_47 1 rfl ?_
        refine gf_89_2 X d_RA_fillRanks_48 wl_RA_18 ?_
        refine g_iload_n X d_RA_fillRanks_51 4 rfl ?_
        refine g_dup2 X d_RA_fillRanks_52 rfl rfl ?_
        obtain ⟨b12, hf⟩ := gd_some hf
        refine g_iald X d_RA_fillRanks_53 kd_92 b12 ?_
        refine g_iload X d_RA_fillRanks_54 0 rfl ?_
        refine g_iadd X d_RA_fillRanks_56 ?_
        obtain ⟨b13, hf⟩ := gd_some hf
        obtain ⟨σ14, eσ14, hf⟩ := lt_ex hf
        refine g_iast X d_RA_fillRanks_57 kd_92 b13 eσ14 ?_
        refine g_iinc X d_RA_fillRanks_58 (j := 4) (lv' := [(3, .int (x3 + (nI 1))), (4, .int v9), (0, .ref (Γ.2.2.1 89)), (1, .ref (Γ.2.2.1 82)), (2, .int x2)]) rfl rfl (Nat.le_of_ble_eq_true rfl) rfl ?_
        refine g_goto X d_RA_fillRanks_61 2 (by decide) ?_
        refine g_sub [2, 3, 4, 0] rfl ?_
        exact ih _ _ _ hf
set_option maxRecDepth 10000 in
theorem c_RA_fillRanks' {Γ : Gm} {l : Launch} {x2 : Int32} {σ σ' : Sg} {r : Int32} (hf : f_RA_fillRanks x2 σ = some (r, σ')) : Ctr Γ l y_RA_fillRanks c_RA_fillRanks 5 none 3 68 [.ref (Γ.2.2.1 89), .ref (Γ.2.2.1 82), .int x2] σ σ' none := by
  refine Ctr.of (lv := [(0, .ref (Γ.2.2.1 89)), (1, .ref (Γ.2.2.1 82)), (2, .int x2)]) (by decide +kernel) (Nat.le_of_ble_eq_true rfl) rfl ?_
  intro p e s m args below meth c X hr hk9
  have X : Cx Γ p (z_rm 3 68) s m args c c_RA_fillRanks 5 "CaptionTallies$Ranks" 0 0 := X
  rw [f_RA_fillRanks] at hf
  refine g_iconst X d_RA_fillRanks_0 (v := (nI 0)) rfl ?_
  refine g_istore_n X d_RA_fillRanks_1 rfl (lv' := [(3, .int (nI 0)), (0, .ref (Γ.2.2.1 89)), (1, .ref (Γ.2.2.1 82)), (2, .int x2)]) (Nat.le_of_ble_eq_true rfl) rfl ?_
  refine g_sub [1, 2, 3, 0] rfl ?_
  exact w_RA_fillRanks_2 X hr hk9 _ _ _ _ hf
section
variable {R : Room} {kc ks : Nat} {Q : State → Prop} {nL : Nat} {cc : ByteArray} {own : String} {pc : Nat} {lv lv' : List (Nat × Value)} {st : List Value}
theorem ca_RA_fillRanks {x2 : Int32} (X : Cx Γ p R s m args c cc nL own kc ks) {idx : Nat} (hd : decode cc pc = .ok (.invokevirtual idx, 3)) (hlk : Cond.methodLink own idx y_RA_fillRanks ∈ lw_gt) (hR : 3 + 1 ≤ R.frames ∧ 8 + (5 + 11) + 68 ≤ R.locals) (hw : (st.map fun v => v.category).sum ≤ 8) {σ σ' : Sg} {r : Int32} (hf : f_RA_fillRanks x2 σ = some (r, σ')) (k : G Γ p l e R s m args below meth c kc ks Q nL (pc + 3) lv (st) σ') : G Γ p l e R s m args below meth c kc ks Q nL pc lv (.int x2 :: .ref (Γ.2.2.1 82) :: .ref (Γ.2.2.1 89) :: st) σ :=
  g_callV (As := [.ref (Γ.2.2.1 82), .int x2]) (rest := st) X hd (c_RA_fillRanks' hf) co_RA_fillRanks hlk wn_RA_fillRanks wse_RA_fillRanks (by decide) kd_89 rfl hR rfl rfl hw k
end
set_option maxRecDepth 10000 in
theorem w_RA_fill_26 {r : Int32} {σ' : Sg} (X : Cx Γ p (z_rm 4 92) s m args c c_RA_fill 4 "CaptionTallies$Ranks" 0 0) (hr : meth.sig.returnType = none) (hk9 : meth.locks = false) : ∀ (n9 : Nat) (x3 : Int32) (σ : Sg), f_RA_fill_26 n9 x3 σ = some (r, σ') → G Γ p l e (z_rm 4 92) s m args below meth c 0 0 (MQ below (Qx Γ none σ') args s 0 0 (fun q : Nat => Γ.2.2.2 ≤ q)) 4 26 [(0, .ref (Γ.2.2.1 89)), (1, .ref (Γ.2.2.1 0)), (2, .ref (Γ.2.2.1 82)), (3, .int x3)] [] σ := by
  intro n9
  induction n9 with
  | zero => intro x3 σ hf; cases hf
  | succ n9 ih =>
    intro x3 σ hf
    rw [f_RA_fill_26] at hf
    refine g_iload_n X d_RA_fill_26 3 rfl ?_
    refine g_iconst X d_RA_fill_27 (v := (nI 3)) rfl ?_
    refine g_ic_ge X d_RA_fill_28 50 (by decide) (fun q1 => ?_) (fun q1 => ?_)
    · have hf := ite_t q1 hf
      exact g_vret X d_RA_fill_50 hr hk9 hf
    · have hf := ite_f q1 hf
      refine g_aload_n X d_RA_fill_31 0 rfl ?_
      refine g_aload_n X d_RA_fill_32 1 rfl ?_
      refine g_aload_n X d_RA_fill_33 2 rfl ?_
      refine g_iload_n X d_RA_fill_34 3 rfl ?_
      obtain ⟨r2, σ3, er2, hf⟩ := bd_some hf
      refine ca_RA_fillPoints X d_RA_fill_35 wl_RA_27 ⟨Nat.le_of_ble_eq_true rfl, Nat.le_of_ble_eq_true rfl⟩ (sum8 rfl) er2 ?_
      refine g_aload_n X d_RA_fill_38 0 rfl ?_
      refine g_aload_n X d_RA_fill_39 2 rfl ?_
      refine g_iload_n X d_RA_fill_40 3 rfl ?_
      obtain ⟨r4, σ5, er4, hf⟩ := bd_some hf
      refine ca_RA_fillRanks X d_RA_fill_41 wl_RA_31 ⟨Nat.le_of_ble_eq_true rfl, Nat.le_of_ble_eq_true rfl⟩ (sum8 rfl) er4 ?_
      refine g_iinc X d_RA_fill_44 (j := 3) (lv' := [(3, .int (x3 + (nI 1))), (0, .ref (Γ.2.2.1 89)), (1, .ref (Γ.2.2.1 0)), (2, .ref (Γ.2.2.1 82))]) rfl rfl (Nat.le_of_ble_eq_true rfl) rfl ?_
      refine g_goto X d_RA_fill_47 26 (by decide) ?_
      refine g_sub [1, 2, 3, 0] rfl ?_
      exact ih _ _ hf
set_option maxRecDepth 10000 in
theorem c_RA_fill' {Γ : Gm} {l : Launch} {σ σ' : Sg} {r : Int32} (hf : f_RA_fill σ = some (r, σ')) : Ctr Γ l y_RA_fill c_RA_fill 4 none 4 92 [.ref (Γ.2.2.1 89), .ref (Γ.2.2.1 0), .ref (Γ.2.2.1 82)] σ σ' none := by
  refine Ctr.of (lv := [(0, .ref (Γ.2.2.1 89)), (1, .ref (Γ.2.2.1 0)), (2, .ref (Γ.2.2.1 82))]) (by decide +kernel) (Nat.le_of_ble_eq_true rfl) rfl ?_
  intro p e s m args below meth c X hr hk9
  have X : Cx Γ p (z_rm 4 92) s m args c c_RA_fill 4 "CaptionTallies$Ranks" 0 0 := X
  rw [f_RA_fill] at hf
  refine g_aload_n X d_RA_fill_0 0 rfl ?_
  refine gf_89_0 X d_RA_fill_1 wl_RA_9 ?_
  refine g_iconst X d_RA_fill_4 (v := (nI 0)) rfl ?_
  obtain ⟨r1, σ2, er1, hf⟩ := bd_some hf
  refine ca_AR_fill X d_RA_fill_5 wl_RA_21 ⟨Nat.le_of_ble_eq_true rfl, Nat.le_of_ble_eq_true rfl⟩ (sum8 rfl) kd_90 er1 ?_
  refine g_aload_n X d_RA_fill_8 0 rfl ?_
  refine gf_89_1 X d_RA_fill_9 wl_RA_15 ?_
  refine g_iconst X d_RA_fill_12 (v := (nI 0)) rfl ?_
  obtain ⟨r3, σ4, er3, hf⟩ := bd_some hf
  refine ca_AR_fill X d_RA_fill_13 wl_RA_21 ⟨Nat.le_of_ble_eq_true rfl, Nat.le_of_ble_eq_true rfl⟩ (sum8 rfl) kd_91 er3 ?_
  refine g_aload_n X d_RA_fill_16 0 rfl ?_
  refine gf_89_2 X d_RA_fill_17 wl_RA_18 ?_
  refine g_iconst X d_RA_fill_20 (v := (nI 0)) rfl ?_
  obtain ⟨r5, σ6, er5, hf⟩ := bd_some hf
  refine ca_AR_fill X d_RA_fill_21 wl_RA_21 ⟨Nat.le_of_ble_eq_true rfl, Nat.le_of_ble_eq_true rfl⟩ (sum8 rfl) kd_92 er5 ?_
  refine g_iconst X d_RA_fill_24 (v := (nI 0)) rfl ?_
  refine g_istore_n X d_RA_fill_25 rfl (lv' := [(3, .int (nI 0)), (0, .ref (Γ.2.2.1 89)), (1, .ref (Γ.2.2.1 0)), (2, .ref (Γ.2.2.1 82))]) (Nat.le_of_ble_eq_true rfl) rfl ?_
  refine g_sub [1, 2, 3, 0] rfl ?_
  exact w_RA_fill_26 X hr hk9 _ _ _ hf
section
variable {R : Room} {kc ks : Nat} {Q : State → Prop} {nL : Nat} {cc : ByteArray} {own : String} {pc : Nat} {lv lv' : List (Nat × Value)} {st : List Value}
theorem ca_RA_fill (X : Cx Γ p R s m args c cc nL own kc ks) {idx : Nat} (hd : decode cc pc = .ok (.invokevirtual idx, 3)) (hlk : Cond.methodLink own idx y_RA_fill ∈ lw_gt) (hR : 4 + 1 ≤ R.frames ∧ 8 + (4 + 11) + 92 ≤ R.locals) (hw : (st.map fun v => v.category).sum ≤ 8) {σ σ' : Sg} {r : Int32} (hf : f_RA_fill σ = some (r, σ')) (k : G Γ p l e R s m args below meth c kc ks Q nL (pc + 3) lv (st) σ') : G Γ p l e R s m args below meth c kc ks Q nL pc lv (.ref (Γ.2.2.1 82) :: .ref (Γ.2.2.1 0) :: .ref (Γ.2.2.1 89) :: st) σ :=
  g_callV (As := [.ref (Γ.2.2.1 0), .ref (Γ.2.2.1 82)]) (rest := st) X hd (c_RA_fill' hf) co_RA_fill hlk wn_RA_fill wse_RA_fill (by decide) kd_89 rfl hR rfl rfl hw k
end
set_option maxRecDepth 10000 in
theorem c_RA_rankBy' {Γ : Gm} {l : Launch} {x1 : Int32} {x2 : Int32} {σ σ' : Sg} {r : Int32} (hf : f_RA_rankBy x1 x2 σ = some (r, σ')) : Ctr Γ l y_RA_rankBy c_RA_rankBy 3 (some .int) 1 21 [.ref (Γ.2.2.1 89), .int x1, .int x2] σ σ' (some (.int r)) := by
  refine Ctr.of (lv := [(0, .ref (Γ.2.2.1 89)), (1, .int x1), (2, .int x2)]) (by decide +kernel) (Nat.le_of_ble_eq_true rfl) rfl ?_
  intro p e s m args below meth c X hr hk9
  have X : Cx Γ p (z_rm 1 21) s m args c c_RA_rankBy 3 "CaptionTallies$Ranks" 0 0 := X
  rw [f_RA_rankBy] at hf
  refine g_aload_n X d_RA_rankBy_0 0 rfl ?_
  refine gf_89_1 X d_RA_rankBy_1 wl_RA_15 ?_
  refine g_iload_n X d_RA_rankBy_4 1 rfl ?_
  refine g_bipush X d_RA_rankBy_5 (v := (nI 20)) rfl ?_
  refine g_imul X d_RA_rankBy_7 ?_
  refine g_iload_n X d_RA_rankBy_8 2 rfl ?_
  refine g_iadd X d_RA_rankBy_9 ?_
  obtain ⟨r1, σ2, er1, hf⟩ := bd_some hf
  refine can_CT_at X d_RA_rankBy_10 wl_RA_65 ⟨Nat.le_of_ble_eq_true rfl, Nat.le_of_ble_eq_true rfl⟩ (sum8 rfl) kd_91 er1 ?_
  exact g_iret X d_RA_rankBy_13 hr hk9 hf
section
variable {R : Room} {kc ks : Nat} {Q : State → Prop} {nL : Nat} {cc : ByteArray} {own : String} {pc : Nat} {lv lv' : List (Nat × Value)} {st : List Value}
theorem ca_RA_rankBy {x1 : Int32} {x2 : Int32} (X : Cx Γ p R s m args c cc nL own kc ks) {idx : Nat} (hd : decode cc pc = .ok (.invokevirtual idx, 3)) (hlk : Cond.methodLink own idx y_RA_rankBy ∈ lw_gt) (hR : 1 + 1 ≤ R.frames ∧ 8 + (3 + 11) + 21 ≤ R.locals) (hw : (st.map fun v => v.category).sum ≤ 8) {σ σ' : Sg} {r : Int32} (hf : f_RA_rankBy x1 x2 σ = some (r, σ')) (k : G Γ p l e R s m args below meth c kc ks Q nL (pc + 3) lv (.int r :: st) σ') : G Γ p l e R s m args below meth c kc ks Q nL pc lv (.int x2 :: .int x1 :: .ref (Γ.2.2.1 89) :: st) σ :=
  g_callV (As := [.int x1, .int x2]) (rest := st) X hd (c_RA_rankBy' hf) co_RA_rankBy hlk wn_RA_rankBy wse_RA_rankBy (by decide) kd_89 rfl hR rfl rfl hw k
end
set_option maxRecDepth 10000 in
theorem c_ST_givePoints' {Γ : Gm} {l : Launch} {x1 : Int32} {x2 : Int32} {x3 : Int32} {σ σ' : Sg} {r : Int32} (hf : f_ST_givePoints x1 x2 x3 σ = some (r, σ')) : Ctr Γ l y_ST_givePoints c_ST_givePoints 4 none 1 22 [.ref (Γ.2.2.1 0), .int x1, .int x2, .int x3] σ σ' none := by
  refine Ctr.of (lv := [(0, .ref (Γ.2.2.1 0)), (1, .int x1), (2, .int x2), (3, .int x3)]) (by decide +kernel) (Nat.le_of_ble_eq_true rfl) rfl ?_
  intro p e s m args below meth c X hr hk9
  have X : Cx Γ p (z_rm 1 22) s m args c c_ST_givePoints 4 "CaptionTallies$State" 0 0 := X
  rw [f_ST_givePoints] at hf
  refine g_aload_n X d_ST_givePoints_0 0 rfl ?_
  refine gf_0_10 X d_ST_givePoints_1 wl_ST_44 ?_
  refine g_iload_n X d_ST_givePoints_4 1 rfl ?_
  refine g_bipush X d_ST_givePoints_5 (v := (nI 20)) rfl ?_
  refine g_imul X d_ST_givePoints_7 ?_
  refine g_iload_n X d_ST_givePoints_8 2 rfl ?_
  refine g_iadd X d_ST_givePoints_9 ?_
  refine g_iload_n X d_ST_givePoints_10 3 rfl ?_
  obtain ⟨r1, σ2, er1, hf⟩ := bd_some hf
  refine can_CT_put X d_ST_givePoints_11 wl_ST_98 ⟨Nat.le_of_ble_eq_true rfl, Nat.le_of_ble_eq_true rfl⟩ (sum8 rfl) kd_10 er1 ?_
  exact g_vret X d_ST_givePoints_14 hr hk9 hf
section
variable {R : Room} {kc ks : Nat} {Q : State → Prop} {nL : Nat} {cc : ByteArray} {own : String} {pc : Nat} {lv lv' : List (Nat × Value)} {st : List Value}
theorem ca_ST_givePoints {x1 : Int32} {x2 : Int32} {x3 : Int32} (X : Cx Γ p R s m args c cc nL own kc ks) {idx : Nat} (hd : decode cc pc = .ok (.invokevirtual idx, 3)) (hlk : Cond.methodLink own idx y_ST_givePoints ∈ lw_gt) (hR : 1 + 1 ≤ R.frames ∧ 8 + (4 + 11) + 22 ≤ R.locals) (hw : (st.map fun v => v.category).sum ≤ 8) {σ σ' : Sg} {r : Int32} (hf : f_ST_givePoints x1 x2 x3 σ = some (r, σ')) (k : G Γ p l e R s m args below meth c kc ks Q nL (pc + 3) lv (st) σ') : G Γ p l e R s m args below meth c kc ks Q nL pc lv (.int x3 :: .int x2 :: .int x1 :: .ref (Γ.2.2.1 0) :: st) σ :=
  g_callV (As := [.int x1, .int x2, .int x3]) (rest := st) X hd (c_ST_givePoints' hf) co_ST_givePoints hlk wn_ST_givePoints wse_ST_givePoints (by decide) kd_0 rfl hR rfl rfl hw k
end
set_option maxRecDepth 10000 in
theorem c_CT_score' {Γ : Gm} {l : Launch} {x1 : Int32} {x2 : Int32} {x3 : Int32} {σ σ' : Sg} {r : Int32} (hf : f_CT_score x1 x2 x3 σ = some (r, σ')) : Ctr Γ l y_CT_score c_CT_score 4 (some .int) 5 115 [.ref (Γ.2.2.1 111), .int x1, .int x2, .int x3] σ σ' (some (.int r)) := by
  refine Ctr.of (lv := [(0, .ref (Γ.2.2.1 111)), (1, .int x1), (2, .int x2), (3, .int x3)]) (by decide +kernel) (Nat.le_of_ble_eq_true rfl) rfl ?_
  intro p e s m args below meth c X hr hk9
  have X : Cx Γ p (z_rm 5 115) s m args c c_CT_score 4 "CaptionTallies" 0 0 := X
  rw [f_CT_score] at hf
  refine g_iload_n X d_CT_score_0 1 rfl ?_
  refine g_iconst X d_CT_score_1 (v := (nI 3)) rfl ?_
  obtain ⟨r1, σ2, er1, hf⟩ := bd_some hf
  refine ca_CT_isIndex X d_CT_score_2 wl_CT_86 ⟨Nat.le_of_ble_eq_true rfl, Nat.le_of_ble_eq_true rfl⟩ (sum8 rfl) er1 ?_
  refine g_if_eq X d_CT_score_5 19 (by decide) (fun q3 => ?_) (fun q3 => ?_)
  · have hf := ite_t q3 hf
    refine g_iconst X d_CT_score_19 (v := (-1)) rfl ?_
    exact g_iret X d_CT_score_20 hr hk9 hf
  · have hf := ite_f q3 hf
    refine g_aload_n X d_CT_score_8 0 rfl ?_
    refine gf_111_1 X d_CT_score_9 wl_CT_19 ?_
    refine g_iload_n X d_CT_score_12 2 rfl ?_
    obtain ⟨r4, σ5, er4, hf⟩ := bd_some hf
    refine ca_ST_isIn X d_CT_score_13 wl_CT_105 ⟨Nat.le_of_ble_eq_true rfl, Nat.le_of_ble_eq_true rfl⟩ (sum8 rfl) er4 ?_
    refine g_if_ne X d_CT_score_16 21 (by decide) (fun q6 => ?_) (fun q6 => ?_)
    · have hf := ite_f q6 hf
      refine g_iload_n X d_CT_score_21 3 rfl ?_
      refine g_if_lt X d_CT_score_22 31 (by decide) (fun q7 => ?_) (fun q7 => ?_)
      · have hf := ite_t q7 hf
        refine g_bipush X d_CT_score_31 (v := (-2)) rfl ?_
        exact g_iret X d_CT_score_33 hr hk9 hf
      · have hf := ite_f q7 hf
        refine g_iload_n X d_CT_score_25 3 rfl ?_
        refine g_bipush X d_CT_score_26 (v := (nI 10)) rfl ?_
        refine g_ic_le X d_CT_score_28 34 (by decide) (fun q8 => ?_) (fun q8 => ?_)
        · have hf := ite_t q8 hf
          refine g_aload_n X d_CT_score_34 0 rfl ?_
          refine gf_111_1 X d_CT_score_35 wl_CT_19 ?_
          refine g_iload_n X d_CT_score_38 1 rfl ?_
          refine g_iload_n X d_CT_score_39 2 rfl ?_
          obtain ⟨r9, σ10, er9, hf⟩ := bd_some hf
          refine ca_ST_pointsBy X d_CT_score_40 wl_CT_154 ⟨Nat.le_of_ble_eq_true rfl, Nat.le_of_ble_eq_true rfl⟩ (sum8 rfl) er9 ?_
          refine g_iload_n X d_CT_score_43 3 rfl ?_
          refine g_ic_ne X d_CT_score_44 50 (by decide) (fun q11 => ?_) (fun q11 => ?_)
          · have hf := ite_f q11 hf
            refine g_aload_n X d_CT_score_50 0 rfl ?_
            refine gf_111_2 X d_CT_score_51 wl_CT_26 ?_
            refine g_aload_n X d_CT_score_54 0 rfl ?_
            refine gf_111_1 X d_CT_score_55 wl_CT_19 ?_
            obtain ⟨r12, σ13, er12, hf⟩ := bd_some hf
            refine ca_HI_record X d_CT_score_58 wl_CT_97 ⟨Nat.le_of_ble_eq_true rfl, Nat.le_of_ble_eq_true rfl⟩ (sum8 rfl) er12 ?_
            refine g_aload_n X d_CT_score_61 0 rfl ?_
            refine gf_111_1 X d_CT_score_62 wl_CT_19 ?_
            refine g_iload_n X d_CT_score_65 1 rfl ?_
            refine g_iload_n X d_CT_score_66 2 rfl ?_
            refine g_iload_n X d_CT_score_67 3 rfl ?_
            obtain ⟨r14, σ15, er14, hf⟩ := bd_some hf
            refine ca_ST_givePoints X d_CT_score_68 wl_CT_158 ⟨Nat.le_of_ble_eq_true rfl, Nat.le_of_ble_eq_true rfl⟩ (sum8 rfl) er14 ?_
            refine g_aload_n X d_CT_score_71 0 rfl ?_
            refine gf_111_5 X d_CT_score_72 wl_CT_40 ?_
            refine g_aload_n X d_CT_score_75 0 rfl ?_
            refine gf_111_1 X d_CT_score_76 wl_CT_19 ?_
            obtain ⟨r16, σ17, er16, hf⟩ := bd_some hf
            refine ca_GR_find X d_CT_score_79 wl_CT_116 ⟨Nat.le_of_ble_eq_true rfl, Nat.le_of_ble_eq_true rfl⟩ (sum8 rfl) er16 ?_
            refine g_aload_n X d_CT_score_82 0 rfl ?_
            refine gf_111_7 X d_CT_score_83 wl_CT_54 ?_
            refine g_aload_n X d_CT_score_86 0 rfl ?_
            refine gf_111_1 X d_CT_score_87 wl_CT_19 ?_
            refine g_aload_n X d_CT_score_90 0 rfl ?_
            refine gf_111_5 X d_CT_score_91 wl_CT_40 ?_
            obtain ⟨r18, σ19, er18, hf⟩ := bd_some hf
            refine ca_RA_fill X d_CT_score_94 wl_CT_162 ⟨Nat.le_of_ble_eq_true rfl, Nat.le_of_ble_eq_true rfl⟩ (sum8 rfl) er18 ?_
            refine g_aload_n X d_CT_score_97 0 rfl ?_
            refine gf_111_7 X d_CT_score_98 wl_CT_54 ?_
            refine g_iload_n X d_CT_score_101 1 rfl ?_
            refine g_aload_n X d_CT_score_102 0 rfl ?_
            refine gf_111_5 X d_CT_score_103 wl_CT_40 ?_
            refine g_iload_n X d_CT_score_106 2 rfl ?_
            obtain ⟨r20, σ21, er20, hf⟩ := bd_some hf
            refine ca_GR_headOf X d_CT_score_107 wl_CT_119 ⟨Nat.le_of_ble_eq_true rfl, Nat.le_of_ble_eq_true rfl⟩ (sum8 rfl) er20 ?_
            obtain ⟨r22, σ23, er22, hf⟩ := bd_some hf
            refine ca_RA_rankBy X d_CT_score_110 wl_CT_166 ⟨Nat.le_of_ble_eq_true rfl, Nat.le_of_ble_eq_true rfl⟩ (sum8 rfl) er22 ?_
            exact g_iret X d_CT_score_113 hr hk9 hf
          · have hf := ite_t q11 hf
            refine g_bipush X d_CT_score_47 (v := (-5)) rfl ?_
            exact g_iret X d_CT_score_49 hr hk9 hf
        · have hf := ite_f q8 hf
          refine g_bipush X d_CT_score_31 (v := (-2)) rfl ?_
          exact g_iret X d_CT_score_33 hr hk9 hf
    · have hf := ite_t q6 hf
      refine g_iconst X d_CT_score_19 (v := (-1)) rfl ?_
      exact g_iret X d_CT_score_20 hr hk9 hf
section
variable {R : Room} {kc ks : Nat} {Q : State → Prop} {nL : Nat} {cc : ByteArray} {own : String} {pc : Nat} {lv lv' : List (Nat × Value)} {st : List Value}
theorem ca_CT_score {x1 : Int32} {x2 : Int32} {x3 : Int32} (X : Cx Γ p R s m args c cc nL own kc ks) {idx : Nat} (hd : decode cc pc = .ok (.invokevirtual idx, 3)) (hlk : Cond.methodLink own idx y_CT_score ∈ lw_gt) (hR : 5 + 1 ≤ R.frames ∧ 8 + (4 + 11) + 115 ≤ R.locals) (hw : (st.map fun v => v.category).sum ≤ 8) {σ σ' : Sg} {r : Int32} (hf : f_CT_score x1 x2 x3 σ = some (r, σ')) (k : G Γ p l e R s m args below meth c kc ks Q nL (pc + 3) lv (.int r :: st) σ') : G Γ p l e R s m args below meth c kc ks Q nL pc lv (.int x3 :: .int x2 :: .int x1 :: .ref (Γ.2.2.1 111) :: st) σ :=
  g_callV (As := [.int x1, .int x2, .int x3]) (rest := st) X hd (c_CT_score' hf) co_CT_score hlk wn_CT_score wse_CT_score (by decide) kd_111 rfl hR rfl rfl hw k
end
set_option maxRecDepth 10000 in
theorem c_CT_mostOf' {Γ : Gm} {l : Launch} {x0 : Int32} {σ σ' : Sg} {r : Int32} (hf : f_CT_mostOf x0 σ = some (r, σ')) : Ctr Γ l y_CT_mostOf c_CT_mostOf 1 (some .int) 0 0 [.int x0] σ σ' (some (.int r)) := by
  refine Ctr.of (lv := [(0, .int x0)]) (by decide +kernel) (Nat.le_of_ble_eq_true rfl) rfl ?_
  intro p e s m args below meth c X hr hk9
  have X : Cx Γ p (z_rm 0 0) s m args c c_CT_mostOf 1 "CaptionTallies" 0 0 := X
  rw [f_CT_mostOf] at hf
  refine g_iload_n X d_CT_mostOf_0 0 rfl ?_
  refine g_iconst X d_CT_mostOf_1 (v := (nI 1)) rfl ?_
  refine g_ic_ne X d_CT_mostOf_2 9 (by decide) (fun q1 => ?_) (fun q1 => ?_)
  · have hf := ite_f q1 hf
    refine g_iconst X d_CT_mostOf_9 (v := (nI 1)) rfl ?_
    exact g_iret X d_CT_mostOf_10 hr hk9 hf
  · have hf := ite_t q1 hf
    refine g_iconst X d_CT_mostOf_5 (v := (nI 5)) rfl ?_
    refine g_goto X d_CT_mostOf_6 10 (by decide) ?_
    exact g_iret X d_CT_mostOf_10 hr hk9 hf
section
variable {R : Room} {kc ks : Nat} {Q : State → Prop} {nL : Nat} {cc : ByteArray} {own : String} {pc : Nat} {lv lv' : List (Nat × Value)} {st : List Value}
theorem ca_CT_mostOf {x0 : Int32} (X : Cx Γ p R s m args c cc nL own kc ks) {idx : Nat} (hd : decode cc pc = .ok (.invokestatic idx, 3)) (hlk : Cond.methodLink own idx y_CT_mostOf ∈ lw_gt) (hR : 0 + 1 ≤ R.frames ∧ 8 + (1 + 11) + 0 ≤ R.locals) (hw : (st.map fun v => v.category).sum ≤ 8) {σ σ' : Sg} {r : Int32} (hf : f_CT_mostOf x0 σ = some (r, σ')) (k : G Γ p l e R s m args below meth c kc ks Q nL (pc + 3) lv (.int r :: st) σ') : G Γ p l e R s m args below meth c kc ks Q nL pc lv (.int x0 :: st) σ :=
  g_callS (As := [.int x0]) (rest := st) X hd (c_CT_mostOf' hf) co_CT_mostOf hlk wn_CT_mostOf hR rfl rfl hw k
theorem can_CT_mostOf {x0 : Int32} (X : Cx Γ p R s m args c cc nL own kc ks) {idx : Nat} (hd : decode cc pc = .ok (.invokestatic idx, 3)) (hlk : (own, idx, y_CT_mostOf) ∈ z_nests) (hR : 0 + 1 ≤ R.frames ∧ 8 + (1 + 11) + 0 ≤ R.locals) (hw : (st.map fun v => v.category).sum ≤ 8) {σ σ' : Sg} {r : Int32} (hf : f_CT_mostOf x0 σ = some (r, σ')) (k : G Γ p l e R s m args below meth c kc ks Q nL (pc + 3) lv (.int r :: st) σ') : G Γ p l e R s m args below meth c kc ks Q nL pc lv (.int x0 :: st) σ :=
  g_callSN (As := [.int x0]) (rest := st) X hd (c_CT_mostOf' hf) co_CT_mostOf hlk wn_CT_mostOf hR rfl rfl hw k
end
set_option maxRecDepth 10000 in
theorem c_ST_changeSetting' {Γ : Gm} {l : Launch} {x1 : Int32} {x2 : Int32} {σ σ' : Sg} {r : Int32} (hf : f_ST_changeSetting x1 x2 σ = some (r, σ')) : Ctr Γ l y_ST_changeSetting c_ST_changeSetting 3 none 1 22 [.ref (Γ.2.2.1 0), .int x1, .int x2] σ σ' none := by
  refine Ctr.of (lv := [(0, .ref (Γ.2.2.1 0)), (1, .int x1), (2, .int x2)]) (by decide +kernel) (Nat.le_of_ble_eq_true rfl) rfl ?_
  intro p e s m args below meth c X hr hk9
  have X : Cx Γ p (z_rm 1 22) s m args c c_ST_changeSetting 3 "CaptionTallies$State" 0 0 := X
  rw [f_ST_changeSetting] at hf
  refine g_aload_n X d_ST_changeSetting_0 0 rfl ?_
  refine gf_0_11 X d_ST_changeSetting_1 wl_ST_47 ?_
  refine g_iload_n X d_ST_changeSetting_4 1 rfl ?_
  refine g_iload_n X d_ST_changeSetting_5 2 rfl ?_
  obtain ⟨r1, σ2, er1, hf⟩ := bd_some hf
  refine can_CT_put X d_ST_changeSetting_6 wl_ST_98 ⟨Nat.le_of_ble_eq_true rfl, Nat.le_of_ble_eq_true rfl⟩ (sum8 rfl) kd_11 er1 ?_
  exact g_vret X d_ST_changeSetting_9 hr hk9 hf
section
variable {R : Room} {kc ks : Nat} {Q : State → Prop} {nL : Nat} {cc : ByteArray} {own : String} {pc : Nat} {lv lv' : List (Nat × Value)} {st : List Value}
theorem ca_ST_changeSetting {x1 : Int32} {x2 : Int32} (X : Cx Γ p R s m args c cc nL own kc ks) {idx : Nat} (hd : decode cc pc = .ok (.invokevirtual idx, 3)) (hlk : Cond.methodLink own idx y_ST_changeSetting ∈ lw_gt) (hR : 1 + 1 ≤ R.frames ∧ 8 + (3 + 11) + 22 ≤ R.locals) (hw : (st.map fun v => v.category).sum ≤ 8) {σ σ' : Sg} {r : Int32} (hf : f_ST_changeSetting x1 x2 σ = some (r, σ')) (k : G Γ p l e R s m args below meth c kc ks Q nL (pc + 3) lv (st) σ') : G Γ p l e R s m args below meth c kc ks Q nL pc lv (.int x2 :: .int x1 :: .ref (Γ.2.2.1 0) :: st) σ :=
  g_callV (As := [.int x1, .int x2]) (rest := st) X hd (c_ST_changeSetting' hf) co_ST_changeSetting hlk wn_ST_changeSetting wse_ST_changeSetting (by decide) kd_0 rfl hR rfl rfl hw k
end
set_option maxRecDepth 10000 in
theorem c_ST_setting' {Γ : Gm} {l : Launch} {x1 : Int32} {σ σ' : Sg} {r : Int32} (hf : f_ST_setting x1 σ = some (r, σ')) : Ctr Γ l y_ST_setting c_ST_setting 2 (some .int) 1 21 [.ref (Γ.2.2.1 0), .int x1] σ σ' (some (.int r)) := by
  refine Ctr.of (lv := [(0, .ref (Γ.2.2.1 0)), (1, .int x1)]) (by decide +kernel) (Nat.le_of_ble_eq_true rfl) rfl ?_
  intro p e s m args below meth c X hr hk9
  have X : Cx Γ p (z_rm 1 21) s m args c c_ST_setting 2 "CaptionTallies$State" 0 0 := X
  rw [f_ST_setting] at hf
  refine g_aload_n X d_ST_setting_0 0 rfl ?_
  refine gf_0_11 X d_ST_setting_1 wl_ST_47 ?_
  refine g_iload_n X d_ST_setting_4 1 rfl ?_
  obtain ⟨r1, σ2, er1, hf⟩ := bd_some hf
  refine can_CT_at X d_ST_setting_5 wl_ST_117 ⟨Nat.le_of_ble_eq_true rfl, Nat.le_of_ble_eq_true rfl⟩ (sum8 rfl) kd_11 er1 ?_
  exact g_iret X d_ST_setting_8 hr hk9 hf
section
variable {R : Room} {kc ks : Nat} {Q : State → Prop} {nL : Nat} {cc : ByteArray} {own : String} {pc : Nat} {lv lv' : List (Nat × Value)} {st : List Value}
theorem ca_ST_setting {x1 : Int32} (X : Cx Γ p R s m args c cc nL own kc ks) {idx : Nat} (hd : decode cc pc = .ok (.invokevirtual idx, 3)) (hlk : Cond.methodLink own idx y_ST_setting ∈ lw_gt) (hR : 1 + 1 ≤ R.frames ∧ 8 + (2 + 11) + 21 ≤ R.locals) (hw : (st.map fun v => v.category).sum ≤ 8) {σ σ' : Sg} {r : Int32} (hf : f_ST_setting x1 σ = some (r, σ')) (k : G Γ p l e R s m args below meth c kc ks Q nL (pc + 3) lv (.int r :: st) σ') : G Γ p l e R s m args below meth c kc ks Q nL pc lv (.int x1 :: .ref (Γ.2.2.1 0) :: st) σ :=
  g_callV (As := [.int x1]) (rest := st) X hd (c_ST_setting' hf) co_ST_setting hlk wn_ST_setting wse_ST_setting (by decide) kd_0 rfl hR rfl rfl hw k
end
set_option maxRecDepth 10000 in
theorem c_CT_set' {Γ : Gm} {l : Launch} {x1 : Int32} {x2 : Int32} {σ σ' : Sg} {r : Int32} (hf : f_CT_set x1 x2 σ = some (r, σ')) : Ctr Γ l y_CT_set c_CT_set 4 (some .int) 4 81 [.ref (Γ.2.2.1 111), .int x1, .int x2] σ σ' (some (.int r)) := by
  refine Ctr.of (lv := [(0, .ref (Γ.2.2.1 111)), (1, .int x1), (2, .int x2)]) (by decide +kernel) (Nat.le_of_ble_eq_true rfl) rfl ?_
  intro p e s m args below meth c X hr hk9
  have X : Cx Γ p (z_rm 4 81) s m args c c_CT_set 4 "CaptionTallies" 0 0 := X
  rw [f_CT_set] at hf
  refine g_iload_n X d_CT_set_0 1 rfl ?_
  refine g_iconst X d_CT_set_1 (v := (nI 3)) rfl ?_
  obtain ⟨r1, σ2, er1, hf⟩ := bd_some hf
  refine ca_CT_isIndex X d_CT_set_2 wl_CT_86 ⟨Nat.le_of_ble_eq_true rfl, Nat.le_of_ble_eq_true rfl⟩ (sum8 rfl) er1 ?_
  refine g_if_eq X d_CT_set_5 20 (by decide) (fun q3 => ?_) (fun q3 => ?_)
  · have hf := ite_t q3 hf
    refine g_bipush X d_CT_set_20 (v := (-2)) rfl ?_
    exact g_iret X d_CT_set_22 hr hk9 hf
  · have hf := ite_f q3 hf
    refine g_iload_n X d_CT_set_8 2 rfl ?_
    refine g_if_lt X d_CT_set_9 20 (by decide) (fun q4 => ?_) (fun q4 => ?_)
    · have hf := ite_t q4 hf
      refine g_bipush X d_CT_set_20 (v := (-2)) rfl ?_
      exact g_iret X d_CT_set_22 hr hk9 hf
    · have hf := ite_f q4 hf
      refine g_iload_n X d_CT_set_12 2 rfl ?_
      refine g_iload_n X d_CT_set_13 1 rfl ?_
      obtain ⟨r5, σ6, er5, hf⟩ := bd_some hf
      refine ca_CT_mostOf X d_CT_set_14 wl_CT_169 ⟨Nat.le_of_ble_eq_true rfl, Nat.le_of_ble_eq_true rfl⟩ (sum8 rfl) er5 ?_
      refine g_ic_le X d_CT_set_17 23 (by decide) (fun q7 => ?_) (fun q7 => ?_)
      · have hf := ite_t q7 hf
        refine g_aload_n X d_CT_set_23 0 rfl ?_
        refine gf_111_1 X d_CT_set_24 wl_CT_19 ?_
        refine g_iload_n X d_CT_set_27 1 rfl ?_
        obtain ⟨r8, σ9, er8, hf⟩ := bd_some hf
        refine ca_ST_setting X d_CT_set_28 wl_CT_172 ⟨Nat.le_of_ble_eq_true rfl, Nat.le_of_ble_eq_true rfl⟩ (sum8 rfl) er8 ?_
        refine g_istore_n X d_CT_set_31 rfl (lv' := [(3, .int r8), (0, .ref (Γ.2.2.1 111)), (1, .int x1), (2, .int x2)]) (Nat.le_of_ble_eq_true rfl) rfl ?_
        refine g_iload_n X d_CT_set_32 0 rfl ?_
        refine g_iload_n X d_CT_set_33 3 rfl ?_
        refine g_ic_ne X d_CT_set_34 40 (by decide) (fun q10 => ?_) (fun q10 => ?_)
        · have hf := ite_f q10 hf
          refine g_aload_n X d_CT_set_40 1 rfl ?_
          refine gf_111_2 X d_CT_set_41 wl_CT_26 ?_
          refine g_aload_n X d_CT_set_44 1 rfl ?_
          refine gf_111_1 X d_CT_set_45 wl_CT_19 ?_
          obtain ⟨r11, σ12, er11, hf⟩ := bd_some hf
          refine ca_HI_record X d_CT_set_48 wl_CT_97 ⟨Nat.le_of_ble_eq_true rfl, Nat.le_of_ble_eq_true rfl⟩ (sum8 rfl) er11 ?_
          refine g_aload_n X d_CT_set_51 1 rfl ?_
          refine gf_111_1 X d_CT_set_52 wl_CT_19 ?_
          refine g_iload_n X d_CT_set_55 2 rfl ?_
          refine g_iload_n X d_CT_set_56 3 rfl ?_
          obtain ⟨r13, σ14, er13, hf⟩ := bd_some hf
          refine ca_ST_changeSetting X d_CT_set_57 wl_CT_175 ⟨Nat.le_of_ble_eq_true rfl, Nat.le_of_ble_eq_true rfl⟩ (sum8 rfl) er13 ?_
          refine g_iload_n X d_CT_set_60 0 rfl ?_
          exact g_iret X d_CT_set_61 hr hk9 hf
        · have hf := ite_t q10 hf
          refine g_bipush X d_CT_set_37 (v := (-5)) rfl ?_
          exact g_iret X d_CT_set_39 hr hk9 hf
      · have hf := ite_f q7 hf
        refine g_bipush X d_CT_set_20 (v := (-2)) rfl ?_
        exact g_iret X d_CT_set_22 hr hk9 hf
section
variable {R : Room} {kc ks : Nat} {Q : State → Prop} {nL : Nat} {cc : ByteArray} {own : String} {pc : Nat} {lv lv' : List (Nat × Value)} {st : List Value}
theorem ca_CT_set {x1 : Int32} {x2 : Int32} (X : Cx Γ p R s m args c cc nL own kc ks) {idx : Nat} (hd : decode cc pc = .ok (.invokevirtual idx, 3)) (hlk : Cond.methodLink own idx y_CT_set ∈ lw_gt) (hR : 4 + 1 ≤ R.frames ∧ 8 + (4 + 11) + 81 ≤ R.locals) (hw : (st.map fun v => v.category).sum ≤ 8) {σ σ' : Sg} {r : Int32} (hf : f_CT_set x1 x2 σ = some (r, σ')) (k : G Γ p l e R s m args below meth c kc ks Q nL (pc + 3) lv (.int r :: st) σ') : G Γ p l e R s m args below meth c kc ks Q nL pc lv (.int x2 :: .int x1 :: .ref (Γ.2.2.1 111) :: st) σ :=
  g_callV (As := [.int x1, .int x2]) (rest := st) X hd (c_CT_set' hf) co_CT_set hlk wn_CT_set wse_CT_set (by decide) kd_111 rfl hR rfl rfl hw k
end
set_option maxRecDepth 10000 in
theorem c_ST_changePrize' {Γ : Gm} {l : Launch} {x1 : Int32} {x2 : Int32} {σ σ' : Sg} {r : Int32} (hf : f_ST_changePrize x1 x2 σ = some (r, σ')) : Ctr Γ l y_ST_changePrize c_ST_changePrize 3 none 1 22 [.ref (Γ.2.2.1 0), .int x1, .int x2] σ σ' none := by
  refine Ctr.of (lv := [(0, .ref (Γ.2.2.1 0)), (1, .int x1), (2, .int x2)]) (by decide +kernel) (Nat.le_of_ble_eq_true rfl) rfl ?_
  intro p e s m args below meth c X hr hk9
  have X : Cx Γ p (z_rm 1 22) s m args c c_ST_changePrize 3 "CaptionTallies$State" 0 0 := X
  rw [f_ST_changePrize] at hf
  refine g_aload_n X d_ST_changePrize_0 0 rfl ?_
  refine gf_0_12 X d_ST_changePrize_1 wl_ST_50 ?_
  refine g_iload_n X d_ST_changePrize_4 1 rfl ?_
  refine g_iconst X d_ST_changePrize_5 (v := (nI 1)) rfl ?_
  refine g_isub X d_ST_changePrize_6 ?_
  refine g_iload_n X d_ST_changePrize_7 2 rfl ?_
  obtain ⟨r1, σ2, er1, hf⟩ := bd_some hf
  refine can_CT_put X d_ST_changePrize_8 wl_ST_98 ⟨Nat.le_of_ble_eq_true rfl, Nat.le_of_ble_eq_true rfl⟩ (sum8 rfl) kd_12 er1 ?_
  exact g_vret X d_ST_changePrize_11 hr hk9 hf
section
variable {R : Room} {kc ks : Nat} {Q : State → Prop} {nL : Nat} {cc : ByteArray} {own : String} {pc : Nat} {lv lv' : List (Nat × Value)} {st : List Value}
theorem ca_ST_changePrize {x1 : Int32} {x2 : Int32} (X : Cx Γ p R s m args c cc nL own kc ks) {idx : Nat} (hd : decode cc pc = .ok (.invokevirtual idx, 3)) (hlk : Cond.methodLink own idx y_ST_changePrize ∈ lw_gt) (hR : 1 + 1 ≤ R.frames ∧ 8 + (3 + 11) + 22 ≤ R.locals) (hw : (st.map fun v => v.category).sum ≤ 8) {σ σ' : Sg} {r : Int32} (hf : f_ST_changePrize x1 x2 σ = some (r, σ')) (k : G Γ p l e R s m args below meth c kc ks Q nL (pc + 3) lv (st) σ') : G Γ p l e R s m args below meth c kc ks Q nL pc lv (.int x2 :: .int x1 :: .ref (Γ.2.2.1 0) :: st) σ :=
  g_callV (As := [.int x1, .int x2]) (rest := st) X hd (c_ST_changePrize' hf) co_ST_changePrize hlk wn_ST_changePrize wse_ST_changePrize (by decide) kd_0 rfl hR rfl rfl hw k
end
set_option maxRecDepth 10000 in
theorem c_ST_prizeOf' {Γ : Gm} {l : Launch} {x1 : Int32} {σ σ' : Sg} {r : Int32} (hf : f_ST_prizeOf x1 σ = some (r, σ')) : Ctr Γ l y_ST_prizeOf c_ST_prizeOf 2 (some .int) 1 21 [.ref (Γ.2.2.1 0), .int x1] σ σ' (some (.int r)) := by
  refine Ctr.of (lv := [(0, .ref (Γ.2.2.1 0)), (1, .int x1)]) (by decide +kernel) (Nat.le_of_ble_eq_true rfl) rfl ?_
  intro p e s m args below meth c X hr hk9
  have X : Cx Γ p (z_rm 1 21) s m args c c_ST_prizeOf 2 "CaptionTallies$State" 0 0 := X
  rw [f_ST_prizeOf] at hf
  refine g_aload_n X d_ST_prizeOf_0 0 rfl ?_
  refine gf_0_12 X d_ST_prizeOf_1 wl_ST_50 ?_
  refine g_iload_n X d_ST_prizeOf_4 1 rfl ?_
  refine g_iconst X d_ST_prizeOf_5 (v := (nI 1)) rfl ?_
  refine g_isub X d_ST_prizeOf_6 ?_
  obtain ⟨r1, σ2, er1, hf⟩ := bd_some hf
  refine can_CT_at X d_ST_prizeOf_7 wl_ST_117 ⟨Nat.le_of_ble_eq_true rfl, Nat.le_of_ble_eq_true rfl⟩ (sum8 rfl) kd_12 er1 ?_
  exact g_iret X d_ST_prizeOf_10 hr hk9 hf
section
variable {R : Room} {kc ks : Nat} {Q : State → Prop} {nL : Nat} {cc : ByteArray} {own : String} {pc : Nat} {lv lv' : List (Nat × Value)} {st : List Value}
theorem ca_ST_prizeOf {x1 : Int32} (X : Cx Γ p R s m args c cc nL own kc ks) {idx : Nat} (hd : decode cc pc = .ok (.invokevirtual idx, 3)) (hlk : Cond.methodLink own idx y_ST_prizeOf ∈ lw_gt) (hR : 1 + 1 ≤ R.frames ∧ 8 + (2 + 11) + 21 ≤ R.locals) (hw : (st.map fun v => v.category).sum ≤ 8) {σ σ' : Sg} {r : Int32} (hf : f_ST_prizeOf x1 σ = some (r, σ')) (k : G Γ p l e R s m args below meth c kc ks Q nL (pc + 3) lv (.int r :: st) σ') : G Γ p l e R s m args below meth c kc ks Q nL pc lv (.int x1 :: .ref (Γ.2.2.1 0) :: st) σ :=
  g_callV (As := [.int x1]) (rest := st) X hd (c_ST_prizeOf' hf) co_ST_prizeOf hlk wn_ST_prizeOf wse_ST_prizeOf (by decide) kd_0 rfl hR rfl rfl hw k
end
end ZM0
