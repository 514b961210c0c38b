section SUB
def anyL (D : Rw) : Nat → Bool
  | 0 => false
  | n + 1 => anyL D n || isLb (D n)
def ftl (D : Rw) (d : Nat) : Nat := fsti (fun k => !(isLb (D k) || isSb (D k))) d
def fltv (D : Rw) (d : Nat) : Int32 := if ftl D d < d then nI (ftl D d) else if anyL D d = true then -1 else nI d
theorem c_fault {σ : Sg} {D : Rw} {d : Nat} (hd : d ≤ 60) (h1 : σ 78 1 = nI d) (h2 : ∀ k, k < d → σ 79 k = D k) : f_DR_firstFault σ = some (fltv D d, σ) := by
  unfold f_DR_firstFault
  refine lpE (fun n i (_ : Unit) => f_DR_firstFault_4 n (bI (anyL D i)) (nI i) σ) d (fun i _ => ∀ k, k < i → (isLb (D k) || isSb (D k)) = true) (fun R => R = some (fltv D d, σ)) ?_ ?_ d 0 FU () (by omega) (by unfold FU; omega) (fun k hk => absurd hk (Nat.not_lt_zero _))
  · intro n i _ hi hI
    show f_DR_firstFault_4 (n + 1) (bI (anyL D i)) (nI i) σ = _ ∨ ∃ y : Unit, _ ∧ f_DR_firstFault_4 (n + 1) (bI (anyL D i)) (nI i) σ = f_DR_firstFault_4 n (bI (anyL D i || isLb (D i))) (nI (i + 1)) σ
    rw [f_DR_firstFault_4]
    unfold f_DR_codeAt
    rw [h1, if_neg (nI_ge hi (by omega)), if_neg (nI_ge (by omega) (by decide)), s_at _ _ _ _ (by omega) (by decide), bd_s, bd_s, h2 i hi, c_isLetter, bd_s, nI_add]
    cases q : isLb (D i)
    · rw [if_pos (by decide), c_isSign, bd_s, Bool.or_false]
      cases q2 : isSb (D i)
      · rw [if_pos (by decide)]
        refine Or.inl ?_
        have e : ftl D d = i := fsti_eq hi (by rw [q, q2]; rfl) (fun j hj => by rw [hI j hj]; rfl)
        unfold fltv
        rw [e, if_pos hi]
      · rw [if_neg (by decide)]
        refine Or.inr ⟨(), fun k hk => ?_, rfl⟩
        by_cases z : k = i
        · rw [z, q, q2]; rfl
        · exact hI k (by omega)
    · rw [if_neg (by decide), Bool.or_true]
      refine Or.inr ⟨(), fun k hk => ?_, rfl⟩
      by_cases z : k = i
      · rw [z, q]; rfl
      · exact hI k (by omega)
  · intro n _ hI
    show f_DR_firstFault_4 (n + 1) (bI (anyL D d)) (nI d) σ = _
    have e : ftl D d = d := fsti_none (fun j hj => by rw [hI j hj]; rfl)
    unfold f_DR_firstFault_4 f_DR_firstFault_51 fltv
    rw [h1, if_pos (Int32.le_refl _), e, if_neg (Nat.lt_irrefl _)]
    cases anyL D d
    · rw [if_pos (by decide), if_neg (by decide)]
    · rw [if_neg (by decide), if_pos rfl]
theorem bI_or (p q : Bool) : bI p ||| bI q = bI (p || q) := by cases p <;> cases q <;> decide
theorem m_fault {σ : Sg} {D : Rw} {d : Nat} (hd : d ≤ 60) (h1 : σ 112 5 = nI d) (h2 : ∀ k, k < d → σ 116 k = D k) : f_MO_fault σ = some (fltv D d, σ) := by
  unfold f_MO_fault
  refine lpE (fun n i (_ : Unit) => f_MO_fault_4 n (bI (anyL D i)) (nI i) σ) d (fun i _ => ∀ k, k < i → (isLb (D k) || isSb (D k)) = true) (fun R => R = some (fltv D d, σ)) ?_ ?_ d 0 FU () (by omega) (by unfold FU; omega) (fun k hk => absurd hk (Nat.not_lt_zero _))
  · intro n i _ hi hI
    show f_MO_fault_4 (n + 1) (bI (anyL D i)) (nI i) σ = _ ∨ ∃ y : Unit, _ ∧ f_MO_fault_4 (n + 1) (bI (anyL D i)) (nI i) σ = f_MO_fault_4 n (bI (anyL D i || isLb (D i))) (nI (i + 1)) σ
    rw [f_MO_fault_4]
    rw [h1, if_neg (nI_ge hi (by omega)), inb_n (by omega) (by omega), gd_t, nI_clamp (by omega), h2 i hi, m_isSign, bd_s]
    cases q : (isLb (D i) || isSb (D i))
    · rw [if_pos (by decide)]
      refine Or.inl ?_
      have e : ftl D d = i := fsti_eq hi (by rw [q]; rfl) (fun j hj => by rw [hI j hj]; rfl)
      unfold fltv
      rw [e, if_pos hi]
    · rw [if_neg (by decide), gd_t, h2 i hi, m_isLetter, bd_s, bI_or, lt', nI_add]
      refine Or.inr ⟨(), fun k hk => ?_, rfl⟩
      by_cases z : k = i
      · rw [z, q]
      · exact hI k (by omega)
  · intro n _ hI
    show f_MO_fault_4 (n + 1) (bI (anyL D d)) (nI d) σ = _
    have e : ftl D d = d := fsti_none (fun j hj => by rw [hI j hj]; rfl)
    unfold f_MO_fault_4 fltv
    rw [h1, if_pos (Int32.le_refl _), e, if_neg (Nat.lt_irrefl _)]
    cases anyL D d
    · rw [if_pos (by decide), if_neg (by decide)]
    · rw [if_neg (by decide), if_pos rfl]
/-- the row with one caption more -/
def sN (N : Rw) (a d : Nat) (D : Rw) : Rw := fun i => if i = 0 then nI (ev N + 1) else if i = 9 + ev N then nI a else if i = 29 + ev N then nI 1 else if i = 69 + ev N then nI d else if 89 + 60 * ev N ≤ i ∧ i < 89 + 60 * ev N + d then D (i - (89 + 60 * ev N)) else N i
theorem sN_e (N : Rw) (a d : Nat) (D : Rw) {i : Nat} (h0 : i ≠ 0) (h1 : i ≠ 9 + ev N) (h2 : i ≠ 29 + ev N) (h3 : i ≠ 69 + ev N) (h4 : ¬ (89 + 60 * ev N ≤ i ∧ i < 89 + 60 * ev N + d)) : sN N a d D i = N i := by
  unfold sN
  rw [if_neg h0, if_neg h1, if_neg h2, if_neg h3, if_neg h4]
theorem sN_ev {N : Rw} (a d : Nat) (D : Rw) (h : ev N < 20) : ev (sN N a d D) = ev N + 1 := by
  show vN (nI (ev N + 1)) = _
  exact vN_nI (by omega)
theorem sN_au {N : Rw} (a d : Nat) (D : Rw) (h : ev N < 20) : sN N a d D (9 + ev N) = nI a := by
  unfold sN; rw [if_neg (by omega), if_pos rfl]
theorem sN_in {N : Rw} (a d : Nat) (D : Rw) (h : ev N < 20) : sN N a d D (29 + ev N) = nI 1 := by
  unfold sN; rw [if_neg (by omega), if_neg (by omega), if_pos rfl]
theorem sN_ln {N : Rw} (a d : Nat) (D : Rw) (h : ev N < 20) : sN N a d D (69 + ev N) = nI d := by
  unfold sN; rw [if_neg (by omega), if_neg (by omega), if_neg (by omega), if_pos rfl]
theorem sN_tx {N : Rw} (a d : Nat) (D : Rw) (h : ev N < 20) {k : Nat} (hk : k < d) (hd : d ≤ 60) : txt (sN N a d D) (ev N) k = D k := by
  unfold txt sN
  rw [if_neg (by omega), if_neg (by omega), if_neg (by omega), if_neg (by omega), if_pos (by omega)]
  congr 1; omega
theorem sN_inn {N : Rw} (a d : Nat) (D : Rw) (h : ev N < 20) (hd : d ≤ 60) (c : Nat) : inn (sN N a d D) c = if c = ev N then true else inn N c := by
  by_cases z : c = ev N
  · rw [if_pos z, z]
    unfold inn
    rw [sN_in a d D h, decide_eq_true h]; rfl
  · rw [if_neg z]
    exact inn_cg (fun hc => sN_e N a d D (by omega) (by omega) (by omega) (by omega) (by omega))
theorem sN_old {N : Rw} (hN : InvN N) (a d : Nat) (D : Rw) (h : ev N < 20) (hd : d ≤ 60) {c : Nat} (hc : c < ev N) : lng (sN N a d D) c = lng N c ∧ cln (sN N a d D) c = cln N c ∧ ∀ j, crr (sN N a d D) c j = crr N c j := by
  have e1 : lng (sN N a d D) c = lng N c := by unfold lng; rw [sN_e N a d D (by omega) (by omega) (by omega) (by omega) (by omega)]
  have h60 := (hN.2.2.2.1 c hc).2
  obtain ⟨k1, k2⟩ := lcn_cong (f := txt (sN N a d D) c) (g := txt N c) (lng N c) (fun k hk => sN_e N a d D (by omega) (by omega) (by omega) (by omega) (by omega))
  refine ⟨e1, ?_, fun j => ?_⟩
  · unfold cln; rw [e1]; exact k1
  · unfold crr; rw [e1]; exact k2 j
theorem sN_new {N : Rw} (a d : Nat) (D : Rw) (h : ev N < 20) (hd : d ≤ 60) : lng (sN N a d D) (ev N) = d ∧ cln (sN N a d D) (ev N) = lcn D d ∧ ∀ j, crr (sN N a d D) (ev N) j = crf D d j := by
  have e1 : lng (sN N a d D) (ev N) = d := by unfold lng; rw [sN_ln a d D h, vN_nI (by omega)]
  obtain ⟨k1, k2⟩ := lcn_cong (f := txt (sN N a d D) (ev N)) (g := D) d (fun k hk => sN_tx a d D h hk hd)
  refine ⟨e1, ?_, fun j => ?_⟩
  · unfold cln; rw [e1]; exact k1
  · unfold crr; rw [e1]; exact k2 j
theorem inv_sub {N : Rw} (hN : InvN N) {a d : Nat} (D : Rw) (h : ev N < 20) (ha : a < 10) (hd : d ≤ 60) : InvN (sN N a d D) := by
  have ee := sN_ev a d D h
  have e : ∀ i, i ≠ 0 → i ≠ 9 + ev N → i ≠ 29 + ev N → i ≠ 69 + ev N → ¬ (89 + 60 * ev N ≤ i ∧ i < 89 + 60 * ev N + d) → sN N a d D i = N i := fun i h0 h1 h2 h3 h4 => sN_e N a d D h0 h1 h2 h3 h4
  have l := st_lk hN (N' := sN N a d D) (fun c hc => e _ (by omega) (by omega) (by omega) (by omega) (by omega))
  have w := st_w hN (N' := sN N a d D) (fun c hc => e _ (by omega) (by omega) (by omega) (by omega) (by omega))
  have s := st_s hN (N' := sN N a d D) (fun c hc => e _ (by omega) (by omega) (by omega) (by omega) (by omega))
  refine ⟨⟨by rw [ee]; rfl, by omega⟩, fun c hc => ?_, fun c hc => ?_, fun c hc => ?_, l.1, l.2.1, l.2.2, fun i hi => ⟨(w.1 i hi).1, by have := (w.1 i hi).2; omega⟩, w.2, st_p hN (fun c hc => e _ (by omega) (by omega) (by omega) (by omega) (by omega)), s.1, s.2, st_z hN (fun c hc => e _ (by omega) (by omega) (by omega) (by omega) (by omega))⟩
  · rw [sN_inn a d D h hd, ee]
    by_cases z : c = ev N
    · rw [if_pos z, z, sN_in a d D h]
      exact ⟨rfl, fun _ => Nat.lt_succ_self _⟩
    · rw [if_neg z, e _ (by omega) (by omega) (by omega) (by omega) (by omega)]
      exact ⟨(hN.2.1 c hc).1, fun q => by have := (hN.2.1 c hc).2 q; omega⟩
  · by_cases z : c = ev N
    · rw [z, sN_au a d D h, vN_nI (by omega)]; exact ⟨rfl, ha⟩
    · rw [e _ (by omega) (by omega) (by omega) (by omega) (by omega)]; exact hN.2.2.1 c hc
  · by_cases z : c = ev N
    · rw [z, (sN_new a d D h hd).1, sN_ln a d D h]; exact ⟨rfl, hd⟩
    · have hc2 : c < ev N := by omega
      rw [(sN_old hN a d D h hd hc2).1, e _ (by omega) (by omega) (by omega) (by omega) (by omega)]
      exact hN.2.2.2.1 c hc2
end SUB
