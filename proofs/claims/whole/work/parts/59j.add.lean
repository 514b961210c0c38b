section ADD
def CD (M : Rw) (n : Nat) (x : Sg) : Prop := (∀ c, c < n → x 6 c = nI (cln M c)) ∧ ∀ c j, c < n → j < cln M c → x 5 (60 * c + j) = crr M c j
theorem d_len {M : Rw} {n : Nat} {x : Sg} (h : CD M n x) (hn : n ≤ 20) {c : Nat} (hc : c < n) : f_ST_coreLengthOf (nI c) x = some (nI (cln M c), x) := by
  unfold f_ST_coreLengthOf
  rw [s_at _ _ _ _ (by omega) (by decide), bd_s, h.1 c hc]
theorem d_let {M : Rw} {n : Nat} {x : Sg} (h : CD M n x) (hn : n ≤ 20) {c j : Nat} (hc : c < n) (hl : cln M c ≤ 60) (hj : j < cln M c) : f_ST_coreLetter (nI c) (nI j) x = some (crr M c j, x) := by
  unfold f_ST_coreLetter
  rw [d_len h hn hc, bd_s, s_idxN _ _ _ (by omega) (by omega), bd_s, decide_eq_true hj, if_neg (by decide), nI_mul, nI_add, s_at _ _ _ _ (by omega) (by decide), bd_s, show c * 60 + j = 60 * c + j by omega, h.2 c j hc hj]
theorem d_same {M : Rw} {n : Nat} {x : Sg} (h : CD M n x) (hn : n ≤ 20) {a b : Nat} (ha : a < n) (hb : b < n) (la : cln M a ≤ 60) (lb : cln M b ≤ 60) : f_ST_haveSameCore (nI a) (nI b) x = some (bI (alk M a b), x) := by
  unfold f_ST_haveSameCore
  rw [d_len h hn ha, bd_s, d_len h hn hb, bd_s]
  by_cases q : cln M a = cln M b
  · rw [if_pos (by rw [q])]
    refine lpE (fun n2 i (_ : Unit) => f_ST_haveSameCore_17 n2 (nI a) (nI b) (nI i) x) (cln M a) (fun i _ => ∀ j, j < i → crr M a j = crr M b j) (fun R => R = some (bI (alk M a b), x)) ?_ ?_ (cln M a) 0 FU () (by omega) (by unfold FU; omega) (fun j hj => absurd hj (Nat.not_lt_zero _))
    · intro n2 i _ hi hI
      show f_ST_haveSameCore_17 (n2 + 1) (nI a) (nI b) (nI i) x = _ ∨ ∃ y : Unit, _ ∧ f_ST_haveSameCore_17 (n2 + 1) (nI a) (nI b) (nI i) x = _
      rw [f_ST_haveSameCore_17, if_neg (nI_ge (by omega) (by decide)), d_len h hn ha, bd_s, if_neg (nI_ge hi (by omega)), d_let h hn ha la hi, bd_s, d_let h hn hb lb (by omega), bd_s, nI_add]
      by_cases z : crr M a i = crr M b i
      · rw [if_pos z]
        refine Or.inr ⟨(), fun j hj => ?_, rfl⟩
        by_cases w : j = i
        · rw [w, z]
        · exact hI j (by omega)
      · rw [if_neg z]
        refine Or.inl ?_
        have e : alk M a b = false := by
          cases w : alk M a b
          · rfl
          · exact absurd (((alk_iff M a b).mp w).2 i hi) z
        rw [e]; rfl
    · intro n2 _ hI
      have e : alk M a b = true := (alk_iff M a b).mpr ⟨q, hI⟩
      show f_ST_haveSameCore_17 (n2 + 1) (nI a) (nI b) (nI (cln M a)) x = _
      rw [f_ST_haveSameCore_17, e]
      by_cases z : cln M a = 60
      · rw [z, if_pos (Int32.le_refl _)]; rfl
      · rw [if_neg (nI_ge (by omega) (by decide)), d_len h hn ha, bd_s, if_pos (Int32.le_refl _)]; rfl
  · rw [if_neg (nI_ne (by omega) (by omega) q)]
    have e : alk M a b = false := by
      cases w : alk M a b
      · rfl
      · exact absurd ((alk_iff M a b).mp w).1 q
    rw [e]; rfl
theorem d_first {M : Rw} {n : Nat} {x : Sg} (h : CD M n x) (hn : n ≤ 20) (hl : ∀ c, c < n → cln M c ≤ 60) {e : Nat} (he : e < n) : f_ST_firstWithCoreOf (nI e) x = some (nI (fal M e), x) := by
  unfold f_ST_firstWithCoreOf
  refine lpE (fun n2 i (_ : Unit) => f_ST_firstWithCoreOf_2 n2 (nI e) (nI i) x) e (fun i _ => ∀ j, j < i → alk M j e = false) (fun R => R = some (nI (fal M e), x)) ?_ ?_ e 0 FU () (by omega) (by unfold FU; omega) (fun j hj => absurd hj (Nat.not_lt_zero _))
  · intro n2 i _ hi hI
    show f_ST_firstWithCoreOf_2 (n2 + 1) (nI e) (nI i) x = _ ∨ ∃ y : Unit, _ ∧ f_ST_firstWithCoreOf_2 (n2 + 1) (nI e) (nI i) x = _
    rw [f_ST_firstWithCoreOf_2, if_neg (nI_ge hi (by omega)), if_neg (nI_ge (by omega) (by decide)), d_same h hn (by omega) he (hl _ (by omega)) (hl _ he), bd_s, nI_add]
    cases q : alk M i e
    · rw [if_pos (by decide)]
      refine Or.inr ⟨(), fun j hj => ?_, rfl⟩
      by_cases w : j = i
      · rw [w, q]
      · exact hI j (by omega)
    · rw [if_neg (by decide)]
      refine Or.inl ?_
      rw [show fal M e = i from fsti_eq hi q hI]
  · intro n2 _ hI
    show f_ST_firstWithCoreOf_2 (n2 + 1) (nI e) (nI e) x = _
    rw [f_ST_firstWithCoreOf_2, if_pos (Int32.le_refl _), show fal M e = e from fsti_none hI]
/-- the new caption's letters, up to this one -/
def AD (D : Rw) (e k : Nat) (x0 x : Sg) : Prop := Fr [3, 5, 6] x0 x ∧ (∀ i, i < 60 * e → x 3 i = x0 3 i ∧ x 5 i = x0 5 i) ∧ (∀ c, c < e → x 6 c = x0 6 c) ∧ (∀ j, j < k → x 3 (60 * e + j) = D j) ∧ x 6 e = nI (lcn D k) ∧ ∀ j, j < lcn D k → x 5 (60 * e + j) = crf D k j
theorem c_addLetter {D : Rw} {e k : Nat} {x0 x : Sg} (he : e < 20) (hk : k < 60) (h : AD D e k x0 x) : ∃ y, f_ST_addLetter (nI e) (nI k) (D k) x = some (0, y) ∧ AD D e (k + 1) x0 y := by
  obtain ⟨h1, h2, h3, h4, h5, h6⟩ := h
  have ll := lcn_le D k
  unfold f_ST_addLetter
  rw [nI_mul, nI_add, s_put _ _ _ _ _ (by omega) (by decide), bd_s, c_isLetter, bd_s, show e * 60 + k = 60 * e + k by omega]
  have g3 : ∀ j, j < k + 1 → up x 3 (60 * e + k) (D k) 3 (60 * e + j) = D j := by
    intro j hj
    rw [up_s]
    by_cases z : j = k
    · rw [z, upd_s]
    · rw [upd_n _ _ (by omega)]; exact h4 j (by omega)
  have g3' : ∀ i, i < 60 * e → up x 3 (60 * e + k) (D k) 3 i = x0 3 i := fun i hi => by rw [up_s, upd_n _ _ (by omega)]; exact (h2 i hi).1
  cases q : isLb (D k)
  · rw [if_pos (by decide)]
    have e1 : lcn D (k + 1) = lcn D k := by rw [lcn, q]; rfl
    refine ⟨_, rfl, h1.up _ _ (by decide), fun i hi => ⟨g3' i hi, by rw [up_n _ _ _ (by decide)]; exact (h2 i hi).2⟩, fun c hc => by rw [up_n _ _ _ (by decide)]; exact h3 c hc, g3, by rw [up_n _ _ _ (by decide), e1]; exact h5, fun j hj => ?_⟩
    rw [e1] at hj
    rw [up_n _ _ _ (by decide), crf_old (Or.inr q)]; exact h6 j hj
  · have e1 : lcn D (k + 1) = lcn D k + 1 := by rw [lcn, q]; rfl
    have hx6 : up x 3 (60 * e + k) (D k) 6 e = nI (lcn D k) := by rw [up_n _ _ _ (by decide)]; exact h5
    rw [if_neg (by decide), show f_ST_coreLengthOf (nI e) (up x 3 (60 * e + k) (D k)) = some (nI (lcn D k), up x 3 (60 * e + k) (D k)) from by
      unfold f_ST_coreLengthOf; rw [s_at _ _ _ _ he (by decide), bd_s, hx6], bd_s, c_smallOf, bd_s, nI_add, show e * 60 + lcn D k = 60 * e + lcn D k by omega, s_put _ _ _ _ _ (by omega) (by decide), bd_s, nI_add, s_put _ _ _ _ _ he (by decide), bd_s]
    refine ⟨_, rfl, ((h1.up _ _ (by decide)).up _ _ (by decide)).up _ _ (by decide), fun i hi => ⟨by rw [up_n _ _ _ (by decide), up_n _ _ _ (by decide)]; exact g3' i hi, by rw [up_n _ _ _ (by decide), up_s, upd_n _ _ (by omega), up_n _ _ _ (by decide)]; exact (h2 i hi).2⟩, fun c hc => by rw [up_s, upd_n _ _ (by omega), up_n _ _ _ (by decide), up_n _ _ _ (by decide)]; exact h3 c hc, fun j hj => by rw [up_n _ _ _ (by decide), up_n _ _ _ (by decide)]; exact g3 j hj, by rw [up_s, upd_s, e1], fun j hj => ?_⟩
    rw [up_n _ _ _ (by decide), up_s]
    by_cases z : j = lcn D k
    · rw [z, upd_s, crf_new q]
    · rw [upd_n _ _ (by omega), up_n _ _ _ (by decide), crf_old (Or.inl z)]; exact h6 j (by omega)
theorem c_add {y : Sg} {N D : Rw} {a d : Nat} (hN : InvN N) (r : RelS (fun k => y k) N) (h : ev N < 20) (ha : a < 10) (hd : d ≤ 60) (h78 : y 78 1 = nI d) (h79 : ∀ k, k < d → y 79 k = D k) : ∃ z, f_ST_add (nI a) y = some (nI (ev N), z) ∧ RelS (fun k => z k) (sN N a d D) ∧ ∀ c, 13 ≤ c → z c = y c := by
  have ee := sN_ev a d D h
  have hM := inv_sub hN D h ha hd
  have y0 : y 0 0 = nI (ev N) := r.1.trans hN.1.1
  unfold f_ST_add
  rw [y0, lt', s_idxN _ _ _ (by omega) (by decide), bd_s, decide_eq_true h, if_neg (by decide), inb_n h (by omega), gd_t, nI_clamp (by omega), lt', gd_t, lt']
  unfold f_DR_length
  rw [bd_s, up_n _ _ _ (by decide), up_n _ _ _ (by decide), h78, imin_nI (by omega) (by decide), Nat.min_eq_left hd, lt', gd_t, lt', gd_t, lt']
  generalize hx0 : up (up (up (up y 1 (ev N) (nI 1)) 2 (ev N) (nI a)) 4 (ev N) (nI d)) 6 (ev N) (nI 0) = x0
  have x0e : ∀ c, c ≠ 1 → c ≠ 2 → c ≠ 4 → c ≠ 6 → x0 c = y c := fun c k1 k2 k3 k4 => by rw [← hx0, up_n _ _ _ k4, up_n _ _ _ k3, up_n _ _ _ k2, up_n _ _ _ k1]
  refine Exists.elim (lpI (fun n k (x : Sg) => f_ST_add_60 n (nI (ev N)) (nI d) (nI k) x) d (fun k x => AD D (ev N) k x0 x) ?_ 0 FU x0 (Nat.zero_le _) (by unfold FU; omega) ⟨Fr.rf _ _, fun i _ => ⟨rfl, rfl⟩, fun c _ => rfl, fun j hj => absurd hj (Nat.not_lt_zero _), by rw [← hx0, up_s, upd_s]; rfl, fun j hj => absurd hj (Nat.not_lt_zero _)⟩) ?_
  · intro n k x hk hI
    obtain ⟨z, z1, z2⟩ := c_addLetter h (by omega) hI
    show ∃ z, _ ∧ f_ST_add_60 (n + 1) (nI (ev N)) (nI d) (nI k) x = _
    rw [f_ST_add_60, if_neg (nI_ge hk (by omega))]
    unfold f_DR_codeAt
    rw [s_at _ _ _ _ (by omega) (by decide), bd_s, bd_s, hI.1 79 (by decide), x0e 79 (by decide) (by decide) (by decide) (by decide), h79 k hk, z1, bd_s, nI_add]
    exact ⟨z, z2, rfl⟩
  · rintro m ⟨x, ⟨g1, g2, g3, g4, g5, g6⟩, heq⟩
    obtain ⟨r0, r1, r2, r3, r4, r5, r6, r7, r8, r9, r10, r11, r12⟩ := r
    obtain ⟨n1, n2, n3⟩ := sN_new (N := N) a d D h hd
    have ll := lcn_le D d
    have cd : CD (sN N a d D) (ev N + 1) x := by
      refine ⟨fun c hc => ?_, fun c j hc hj => ?_⟩
      · by_cases z : c = ev N
        · rw [z, g5, n2]
        · have hc2 : c < ev N := by omega
          rw [g3 c hc2, (sN_old hN a d D h hd hc2).2.1, ← hx0, up_s, upd_n _ _ z, up_n _ _ _ (by decide), up_n _ _ _ (by decide), up_n _ _ _ (by decide)]
          exact r6 c hc2
      · by_cases z : c = ev N
        · rw [z] at hj ⊢
          rw [n2] at hj
          rw [n3, g6 j hj]
        · have hc2 : c < ev N := by omega
          obtain ⟨o1, o2, o3⟩ := sN_old hN a d D h hd hc2
          have := hN.cl hc2
          rw [o2] at hj
          rw [o3, (g2 _ (by omega)).2, x0e 5 (by decide) (by decide) (by decide) (by decide)]
          exact r5 c j hc2 hj
    have fi := d_first cd (by omega) (fun c hc => hM.cl (by rw [ee]; exact hc)) (Nat.lt_succ_self _)
    have heq2 : f_ST_add_60 FU (nI (ev N)) (nI d) (nI 0) x0 = some (nI (ev N), up (up x 7 (ev N) (nI (fal (sN N a d D) (ev N)))) 0 0 (nI (ev N + 1))) := by
      refine heq.trans ?_
      show f_ST_add_60 (m + 1) (nI (ev N)) (nI d) (nI d) x = _
      rw [f_ST_add_60, if_pos (Int32.le_refl _), fi, bd_s, inb_n h (by omega), gd_t, nI_clamp (by omega), lt', up_n _ _ _ (by decide), g1 0 (by decide), x0e 0 (by decide) (by decide) (by decide) (by decide), y0, nI_add, lt']
    refine ⟨_, heq2, ?_, fun c hc => by rw [up_n _ _ _ (by omega), up_n _ _ _ (by omega), g1 c (by simp; omega), x0e c (by omega) (by omega) (by omega) (by omega)]⟩
    have ze : ∀ c, c ≠ 0 → c ≠ 7 → up (up x 7 (ev N) (nI (fal (sN N a d D) (ev N)))) 0 0 (nI (ev N + 1)) c = x c := fun c k1 k2 => by rw [up_n _ _ _ k1, up_n _ _ _ k2]
    have zy : ∀ c, 8 ≤ c → up (up x 7 (ev N) (nI (fal (sN N a d D) (ev N)))) 0 0 (nI (ev N + 1)) c = y c := fun c hc => by rw [ze c (by omega) (by omega), g1 c (by simp; omega), x0e c (by omega) (by omega) (by omega) (by omega)]
    have e : ∀ i, i ≠ 0 → i ≠ 9 + ev N → i ≠ 29 + ev N → i ≠ 69 + ev N → ¬ (89 + 60 * ev N ≤ i ∧ i < 89 + 60 * ev N + d) → sN N a d D i = N i := fun i h0 h1 h2 h3 h4 => sN_e N a d D h0 h1 h2 h3 h4
    have e49 : ∀ c, c < 20 → sN N a d D (49 + c) = N (49 + c) := fun c hc => e _ (by omega) (by omega) (by omega) (by omega) (by omega)
    have eT : ∀ i, 1289 ≤ i → sN N a d D i = N i := fun i hi => e _ (by omega) (by omega) (by omega) (by omega) (by omega)
    have eL : ∀ i, 1 ≤ i → i < 9 → sN N a d D i = N i := fun i h1 hi => e _ (by omega) (by omega) (by omega) (by omega) (by omega)
    show RelS (up (up x 7 (ev N) (nI (fal (sN N a d D) (ev N)))) 0 0 (nI (ev N + 1))) (sN N a d D)
    refine ⟨by rw [up_s, upd_s]; rfl, fun c hc => ?_, fun c hc => ?_, fun c k hc hk => ?_, fun c hc => ?_, fun c j hc hj => by rw [ee] at hc; rw [ze 5 (by decide) (by decide)]; exact cd.2 c j hc hj, fun c hc => by rw [ee] at hc; rw [ze 6 (by decide) (by decide)]; exact cd.1 c hc, fun c hc => ?_, fun u v hu hv => by rw [zy 8 (by decide), lkd_cg (e49 u hu)]; exact r8 u v hu hv, fun i hi => by rw [zy 9 (by decide), show wsc (sN N a d D) i = wsc N i by unfold wsc; rw [eT _ (by omega)]]; exact r9 i hi, fun i hi => by rw [zy 10 (by decide), show ptc (sN N a d D) i = ptc N i by unfold ptc; rw [eT _ (by omega)]]; exact r10 i hi, fun k hk => by rw [zy 11 (by decide), eL _ (by omega) (by omega)]; exact r11 k hk, fun k hk => by rw [zy 12 (by decide), eL _ (by omega) (by omega)]; exact r12 k hk⟩
    · rw [ze 1 (by decide) (by decide), g1 1 (by decide), ← hx0, up_n _ _ _ (by decide), up_n _ _ _ (by decide), up_n _ _ _ (by decide), up_s]
      by_cases z : c = ev N
      · rw [z, upd_s, sN_in a d D h]
      · rw [upd_n _ _ z, e _ (by omega) (by omega) (by omega) (by omega) (by omega)]; exact r1 c hc
    · rw [ze 2 (by decide) (by decide), g1 2 (by decide), ← hx0, up_n _ _ _ (by decide), up_n _ _ _ (by decide), up_s]
      by_cases z : c = ev N
      · rw [z, upd_s, sN_au a d D h]
      · rw [upd_n _ _ z, e _ (by omega) (by omega) (by omega) (by omega) (by omega), up_n _ _ _ (by decide)]; exact r2 c hc
    · rw [ee] at hc
      rw [ze 3 (by decide) (by decide)]
      by_cases z : c = ev N
      · rw [z] at hk ⊢
        rw [n1] at hk
        rw [g4 k hk, sN_tx a d D h hk hd]
      · have hc2 : c < ev N := by omega
        rw [(sN_old hN a d D h hd hc2).1] at hk
        have h60 := (hN.2.2.2.1 c hc2).2
        rw [(g2 _ (by omega)).1, x0e 3 (by decide) (by decide) (by decide) (by decide), show txt (sN N a d D) c k = txt N c k from e _ (by omega) (by omega) (by omega) (by omega) (by omega)]
        exact r3 c k hc2 hk
    · rw [ee] at hc
      rw [ze 4 (by decide) (by decide), g1 4 (by decide), ← hx0, up_n _ _ _ (by decide), up_s]
      by_cases z : c = ev N
      · rw [z, upd_s, sN_ln a d D h]
      · rw [upd_n _ _ z, e _ (by omega) (by omega) (by omega) (by omega) (by omega), up_n _ _ _ (by decide), up_n _ _ _ (by decide)]; exact r4 c (by omega)
    · rw [ee] at hc
      rw [up_n _ _ _ (by decide), up_s]
      by_cases z : c = ev N
      · rw [z, upd_s]
      · have hc2 : c < ev N := by omega
        rw [upd_n _ _ z, g1 7 (by decide), x0e 7 (by decide) (by decide) (by decide) (by decide), show fal (sN N a d D) c = fal N c from fsti_cong (fun k hk => by
          obtain ⟨-, p1, p2⟩ := sN_old hN a d D h hd (show k < ev N by omega)
          obtain ⟨-, q1, q2⟩ := sN_old hN a d D h hd hc2
          unfold alk
          rw [p1, q1]
          congr 1
          refine congrArg _ (funext fun j => ?_)
          rw [p2, q2])]
        exact r7 c hc2
theorem op_submit (x1 : Int32) : Ok2 (f_CT_submit x1) (f_MO_submit x1) := Ok2.mk (fun A hA => by
  show One _ _ A
  have hE := hA.1.1.2
  have hd := hA.2.2.2
  by_cases q : plc 10 x1 < 10
  case neg =>
    refine One.same hA (-1) (fun σ h => ?_) (fun σ h => ?_)
    · unfold f_CT_submit; rw [s_idx _ _ _ (by decide), bd_s, decide_eq_false q, bI_f, if_pos rfl]
    · unfold f_MO_submit; rw [m_inP σ x1 9 (by decide), bd_s, decide_eq_false q, bI_f, if_pos rfl]
  obtain ⟨a, ha, e1⟩ := ix3 (by decide) q
  subst e1
  have cs : ∀ σ, CI A σ → f_CT_submit (nI a) σ = if fltv A.D A.d = -1 then (if nI (ev A.N) < nI 20 then bd (f_HI_record σ) fun r10 σ11 => bd (f_ST_add (nI a) σ11) fun r12 σ13 => some (r12, σ13) else some (-3, σ)) else some ((-100) - fltv A.D A.d, σ) := by
    intro σ h
    unfold f_CT_submit
    rw [s_idx _ _ _ (by decide), bd_s, decide_eq_true q, if_neg (by decide), c_fault hd h.2.2.2.1 h.2.2.2.2, bd_s, r_sofar (h.qs hA), bd_s]
  have ms : ∀ σ, RI A σ → f_MO_submit (nI a) σ = if fltv A.D A.d < nI 0 then (if nI (ev A.N) = nI 20 then some (-3, σ) else bd (f_MO_record σ) fun r10 σ11 => gd (inb (nI 0) 1385) <| lt' (up σ11 113 (nI 0).toNatClampNeg (nI (ev A.N) + nI 1)) fun σ13 => gd (inb (nI 9 + nI (ev A.N)) 1385) <| lt' (up σ13 113 (nI 9 + nI (ev A.N)).toNatClampNeg (nI a)) fun σ15 => gd (inb (nI 29 + nI (ev A.N)) 1385) <| lt' (up σ15 113 (nI 29 + nI (ev A.N)).toNatClampNeg (nI 1)) fun σ17 => gd (inb (nI 69 + nI (ev A.N)) 1385) <| lt' (up σ17 113 (nI 69 + nI (ev A.N)).toNatClampNeg (σ17 112 5)) fun σ19 => f_MO_submit_91 FU (nI (ev A.N)) (nI 0) σ19) else some ((-100) - fltv A.D A.d, σ) := by
    intro σ h
    unfold f_MO_submit
    rw [m_inP σ _ 9 (by decide), bd_s, decide_eq_true q, if_neg (by decide), m_fault hd h.2.2.2.1 h.2.2.2.2, bd_s, inb_n (show 0 < 1385 by decide) (by decide), gd_t, nI_clamp (show 0 < 2147483648 by decide), m_ev (h.mr hA), lt']
  have fv : fltv A.D A.d = -1 ∨ ∃ k, k ≤ 60 ∧ fltv A.D A.d = nI k := by
    unfold fltv
    have := fsti_le (fun k => !(isLb (A.D k) || isSb (A.D k))) A.d
    by_cases w : ftl A.D A.d < A.d
    · rw [if_pos w]; exact Or.inr ⟨_, by unfold ftl; omega, rfl⟩
    · rw [if_neg w]
      by_cases u : anyL A.D A.d = true
      · rw [if_pos u]; exact Or.inl rfl
      · rw [if_neg u]; exact Or.inr ⟨_, hd, rfl⟩
  rcases fv with f1 | ⟨k, k1, k2⟩
  case inr =>
    refine One.same hA ((-100) - nI k) (fun σ h => ?_) (fun σ h => ?_)
    · rw [cs σ h, k2, if_neg (neI (by omega) (by decide))]
    · rw [ms σ h, k2, if_neg (neg0 (by omega))]
  by_cases h20 : ev A.N < 20
  case neg =>
    have e20 : ev A.N = 20 := by omega
    refine One.same hA (-3) (fun σ h => ?_) (fun σ h => ?_)
    · rw [cs σ h, f1, if_pos rfl, e20, if_neg (by decide)]
    · rw [ms σ h, f1, if_pos (by decide), e20, if_pos rfl]
  refine One.chg hA (sN A.N a A.d A.D) (nI (ev A.N)) (inv_sub hA.1 A.D h20 ha hd) (fun σ y h h1 h2 h3 => ?_) (fun σ y h h1 h2 h3 => ?_)
  · obtain ⟨z, z1, z2, z3⟩ := c_add (D := A.D) (a := a) (d := A.d) hA.1 h3.1 h20 ha hd h3.2.2.2.1 h3.2.2.2.2
    exact ⟨z, by rw [cs σ h, f1, if_pos rfl, if_pos ((nI_ltI (by omega) (by decide)).mpr h20), h1, bd_s, z1, bd_s], z2, z3⟩
  · have h5 : y 112 5 = nI A.d := h3.2.2.2.1
    have h116 : ∀ k, k < A.d → y 116 k = A.D k := h3.2.2.2.2
    rw [ms σ h, f1, if_pos (by decide), if_neg (nI_ne (by omega) (by decide) (by omega)), h1, bd_s, inb_n (by decide) (by decide), gd_t, nI_clamp (by decide), lt', nI_add, nI_add, nI_add, nI_add, inb_n (by omega) (by omega), gd_t, nI_clamp (by omega), lt', inb_n (by omega) (by omega), gd_t, nI_clamp (by omega), lt', inb_n (by omega) (by omega), gd_t, nI_clamp (by omega), up_n _ _ _ (by decide), up_n _ _ _ (by decide), up_n _ _ _ (by decide), h5, lt']
    generalize hx0 : up (up (up (up y 113 0 (nI (ev A.N + 1))) 113 (9 + ev A.N) (nI a)) 113 (29 + ev A.N) (nI 1)) 113 (69 + ev A.N) (nI A.d) = x0
    have x0e : ∀ c, c ≠ 113 → x0 c = y c := fun c hc => by rw [← hx0, up_n _ _ _ hc, up_n _ _ _ hc, up_n _ _ _ hc, up_n _ _ _ hc]
    refine Exists.elim (lpI (fun n k (x : Sg) => f_MO_submit_91 n (nI (ev A.N)) (nI k) x) A.d (fun k x => Fr [113] x0 x ∧ ∀ i, i < 1385 → x 113 i = if 89 + 60 * ev A.N ≤ i ∧ i < 89 + 60 * ev A.N + k then A.D (i - (89 + 60 * ev A.N)) else x0 113 i) ?_ 0 FU x0 (Nat.zero_le _) (by unfold FU; omega) ⟨Fr.rf _ _, fun i hi => (if_neg (by omega)).symm⟩) ?_
    · intro n k x hk hI
      obtain ⟨hF, hL⟩ := hI
      show ∃ z, _ ∧ f_MO_submit_91 (n + 1) (nI (ev A.N)) (nI k) x = _
      rw [f_MO_submit_91, hF 112 (by decide), x0e 112 (by decide), h5, if_neg (nI_ge hk (by omega)), inb_n (by omega) (by omega), gd_t, nI_mul, nI_add, nI_add, inb_n (by omega) (by omega), gd_t, nI_clamp (by omega), nI_clamp (by omega), hF 116 (by decide), x0e 116 (by decide), h116 k hk, lt', nI_add]
      refine ⟨_, ⟨hF.up _ _ (by decide), fun i hi => ?_⟩, rfl⟩
      rw [up_s]
      by_cases z : i = 89 + 60 * ev A.N + k
      · rw [z, upd_s, if_pos (by omega)]
        congr 1; omega
      · rw [upd_n _ _ z, hL i hi]
        by_cases w : 89 + 60 * ev A.N ≤ i ∧ i < 89 + 60 * ev A.N + k
        · rw [if_pos w, if_pos (by omega)]
        · rw [if_neg w, if_neg (by omega)]
    · rintro m ⟨x, ⟨hF, hL⟩, heq⟩
      refine ⟨x, heq.trans ?_, fun i hi => ?_, fun c hc => by rw [hF c (by simp; exact hc), x0e c hc]⟩
      · show f_MO_submit_91 (m + 1) (nI (ev A.N)) (nI A.d) x = _
        rw [f_MO_submit_91, hF 112 (by decide), x0e 112 (by decide), h5, if_pos (Int32.le_refl _)]
      · rw [hL i hi]
        unfold sN
        by_cases w : 89 + 60 * ev A.N ≤ i ∧ i < 89 + 60 * ev A.N + A.d
        · rw [if_pos w, if_neg (by omega), if_neg (by omega), if_neg (by omega), if_neg (by omega), if_pos w]
        · rw [if_neg w, if_neg w, ← hx0, up_s, up_s, up_s, up_s]
          by_cases z3 : i = 69 + ev A.N
          · rw [z3, upd_s, if_neg (by omega), if_neg (by omega), if_neg (by omega), if_pos rfl]
          · rw [upd_n _ _ z3]
            by_cases z2 : i = 29 + ev A.N
            · rw [z2, upd_s, if_neg (by omega), if_neg (by omega), if_pos rfl]
            · rw [upd_n _ _ z2]
              by_cases z1 : i = 9 + ev A.N
              · rw [z1, upd_s, if_neg (by omega), if_pos rfl]
              · rw [upd_n _ _ z1]
                by_cases z0 : i = 0
                · rw [z0, upd_s, if_pos rfl]
                · rw [upd_n _ _ z0, if_neg z0, if_neg z1, if_neg z2, if_neg z3]; exact h3.1 i hi)
end ADD
