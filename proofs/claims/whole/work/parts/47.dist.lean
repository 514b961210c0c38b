/-! distances of cores -/
def nrw (pv : Nat → Nat) (c : Nat → Bool) (i : Nat) : Nat → Nat
  | 0 => i + 1
  | j + 1 => min (pv j + b2n (c j)) (min (nrw pv c i j) (pv (j + 1)) + 1)
def drw (f g : Nat → Int32) : Nat → Nat → Nat
  | 0 => fun j => j
  | i + 1 => nrw (drw f g i) (fun j => !(decide (f i = g j))) i
theorem drw_s (f g : Nat → Int32) (i j : Nat) : drw f g (i + 1) (j + 1) = min (drw f g i j + b2n (!(decide (f i = g j)))) (min (drw f g (i + 1) j) (drw f g i (j + 1)) + 1) := rfl
theorem drw_0 (f g : Nat → Int32) (i : Nat) : drw f g i 0 = i := by cases i <;> rfl
theorem drw_b (f g : Nat → Int32) : ∀ i j, drw f g i j ≤ i + j ∧ i ≤ drw f g i j + j ∧ j ≤ drw f g i j + i := by
  intro i
  induction i with
  | zero => intro j; show j ≤ 0 + j ∧ 0 ≤ j + j ∧ j ≤ j + 0; omega
  | succ i ih =>
    intro j
    induction j with
    | zero => rw [drw_0]; omega
    | succ j jh =>
      have h1 := ih j
      have h2 := ih (j + 1)
      have h3 := b2n_le (!(decide (f i = g j)))
      rw [drw_s]
      omega
theorem drw_z (f g : Nat → Int32) : ∀ i j, drw f g i j = 0 → i = j ∧ ∀ k, k < i → f k = g k := by
  intro i
  induction i with
  | zero => intro j h; exact ⟨h.symm, fun k hk => absurd hk (Nat.not_lt_zero _)⟩
  | succ i ih =>
    intro j h
    have hb := drw_b f g (i + 1) j
    obtain ⟨j, rfl⟩ : ∃ z, j = z + 1 := ⟨j - 1, by omega⟩
    rw [drw_s] at h
    have h1 : drw f g i j = 0 := by omega
    have h2 : b2n (!(decide (f i = g j))) = 0 := by omega
    obtain ⟨e1, e2⟩ := ih j h1
    have e3 : f i = g j := by
      by_cases z : f i = g j
      · exact z
      · rw [decide_eq_false z] at h2; cases h2
    refine ⟨by omega, fun k hk => ?_⟩
    by_cases z : k = i
    · rw [z, e3, e1]
    · exact e2 k (by omega)
def dI (N : Rw) (a b : Nat) : Nat := drw (crr N a) (crr N b) (cln N a) (cln N b)
theorem dI_0 {N : Rw} {a b : Nat} (h : dI N a b = 0) : alk N a b = true := (alk_iff N a b).mpr (drw_z _ _ _ _ h)
theorem dI_b (N : Rw) (a b : Nat) : dI N a b ≤ cln N a + cln N b ∧ cln N a ≤ dI N a b + cln N b ∧ cln N b ≤ dI N a b + cln N a := drw_b _ _ _ _
section DI1
variable {σ : Sg} {N : Rw}
/-- row of the class: new up to place j, old behind it -/
def RowI (f g : Nat → Int32) (w c i j : Nat) (x : Sg) : Prop := ∀ k, k ≤ w → x c k = nI (if k ≤ j then drw f g (i + 1) k else drw f g i k)
theorem s_line72 {f g : Nat → Int32} {w i j : Nat} (K : Int32 → Int32 → Int32 → Int32 → Int32 → Sg → Option (Int32 × Sg)) (b x5 x6 : Int32) (hw : w ≤ 60) (hi : i < 60) (hj : j < w) {y : Sg} (hR : RowI f g w 109 i j y) {t : Nat} (ht : t = drw f g i j + b2n (!(decide (f i = g j)))) :
    ∃ z, RowI f g w 109 i (j + 1) z ∧ Fr [109] y z ∧ f_DI_fillLine_72 K b x5 x6 (nI (j + 1)) (nI t) y = K b x5 x6 (nI (drw f g i (j + 1))) (nI (j + 2)) z := by
  have b1 := drw_b f g i (j + 1)
  have b2 := drw_b f g (i + 1) j
  have b3 := drw_b f g i j
  have b4 := b2n_le (!(decide (f i = g j)))
  have e1 : y 109 (j + 1) = nI (drw f g i (j + 1)) := by rw [hR (j + 1) (by omega), if_neg (by omega)]
  have e2 : y 109 j = nI (drw f g (i + 1) j) := by rw [hR j (by omega), if_pos (Nat.le_refl _)]
  unfold f_DI_fillLine_72
  rw [inb_n (by omega) (by omega), gd_t, nI_clamp (by omega), e1, lt', mI_sub, mI_s (by omega), show j + 1 - 1 = j by omega, inb_n (by omega) (by omega), gd_t, nI_clamp (by omega), gd_t, e2, imin_nI (by omega) (by omega), nI_add, lt', gd_t, imin_nI (by omega) (by omega), lt', nI_add]
  refine ⟨_, fun k hk => ?_, (Fr.rf _ _).up _ _ (by decide), rfl⟩
  rw [up_s]
  by_cases z : k = j + 1
  · rw [z, upd_s, if_pos (Nat.le_refl _), drw_s, ht]
    congr 1
    omega
  · rw [upd_n _ _ z, hR k hk]
    by_cases q : k ≤ j
    · rw [if_pos q, if_pos (by omega)]
    · rw [if_neg q, if_neg (by omega)]
theorem s_line (h : QS σ N) {a b i : Nat} (ha : a < ev N) (hb : b < ev N) (hi : i < cln N a) (h0 : ∀ k, k ≤ cln N b → σ 109 k = nI (drw (crr N a) (crr N b) i k)) : ∃ y, f_DI_fillLine (nI a) (nI b) (nI (i + 1)) σ = some (0, y) ∧ Fr [109] σ y ∧ ∀ k, k ≤ cln N b → y 109 k = nI (drw (crr N a) (crr N b) (i + 1) k) := by
  have la := h.2.1.cl ha
  have lb := h.2.1.cl hb
  unfold f_DI_fillLine
  rw [r_corelen h hb, bd_s, imin_nI (by omega) (by omega), Nat.min_eq_left lb, lt', mI_sub, mI_s (by omega), show i + 1 - 1 = i by omega, r_corelet h ha hi, bd_s, inb_n (by decide) (by decide), gd_t, nI_clamp (by decide), h0 0 (Nat.zero_le _), lt', gd_t, lt']
  generalize hx0 : up σ 109 0 (nI (i + 1)) = x0
  have hF0 : Fr [109] σ x0 := by rw [← hx0]; exact (Fr.rf _ _).up _ _ (by decide)
  have hR0 : RowI (crr N a) (crr N b) (cln N b) 109 i 0 x0 := by
    intro k hk
    rw [← hx0, up_s]
    by_cases z : k = 0
    · rw [z, upd_s, if_pos (Nat.le_refl _), drw_0]
    · rw [upd_n _ _ z, if_neg (by omega)]; exact h0 k hk
  refine Exists.elim (lpI (fun n j (y : Sg) => f_DI_fillLine_42 n (nI b) (nI (cln N b)) (crr N a i) (nI (drw (crr N a) (crr N b) i j)) (nI (j + 1)) y) (cln N b) (fun j y => Fr [109] σ y ∧ RowI (crr N a) (crr N b) (cln N b) 109 i j y) ?_ 0 FU x0 (Nat.zero_le _) (by unfold FU; omega) ⟨hF0, hR0⟩) ?_
  · intro n j y hj hI
    obtain ⟨hF, hR⟩ := hI
    have hq := h.fr hF (by decide)
    have bb := drw_b (crr N a) (crr N b) i j
    show ∃ z, _ ∧ f_DI_fillLine_42 (n + 1) (nI b) (nI (cln N b)) (crr N a i) (nI (drw (crr N a) (crr N b) i j)) (nI (j + 1)) y = _
    rw [f_DI_fillLine_42, if_neg (fun w => by have := (nI_ltI (by omega) (by omega)).mp w; omega), mI_sub, mI_s (by omega), show j + 1 - 1 = j by omega, r_corelet hq hb hj, bd_s]
    by_cases z : crr N a i = crr N b j
    · obtain ⟨v, v1, v2, v3⟩ := s_line72 (fun x3 x5 x6 x7 x8 σ => f_DI_fillLine_42 n x3 x5 x6 x7 x8 σ) (nI b) (nI (cln N b)) (crr N a i) lb (by omega) hj hR (t := drw (crr N a) (crr N b) i j) (by rw [decide_eq_true z]; rfl)
      rw [if_pos z, v3]
      exact ⟨v, ⟨hF.tr v2, v1⟩, rfl⟩
    · obtain ⟨v, v1, v2, v3⟩ := s_line72 (fun x3 x5 x6 x7 x8 σ => f_DI_fillLine_42 n x3 x5 x6 x7 x8 σ) (nI b) (nI (cln N b)) (crr N a i) lb (by omega) hj hR (t := drw (crr N a) (crr N b) i j + 1) (by rw [decide_eq_false z]; rfl)
      rw [if_neg z, nI_add, v3]
      exact ⟨v, ⟨hF.tr v2, v1⟩, rfl⟩
  · rintro m ⟨y, ⟨hF, hR⟩, heq⟩
    refine ⟨y, Eq.trans ?_ (heq.trans ?_), hF, fun k hk => by rw [hR k hk, if_pos hk]⟩
    · rw [drw_0]
    · show f_DI_fillLine_42 (m + 1) (nI b) (nI (cln N b)) (crr N a i) _ (nI (cln N b + 1)) y = _
      rw [f_DI_fillLine_42, if_pos ((nI_ltI (by omega) (by omega)).mpr (Nat.lt_succ_self _))]
theorem s_between (h : QS σ N) {a b : Nat} (ha : a < ev N) (hb : b < ev N) : ∃ y, f_DI_between (nI a) (nI b) σ = some (nI (dI N a b), y) ∧ Fr [109] σ y := by
  have la := h.2.1.cl ha
  have lb := h.2.1.cl hb
  unfold f_DI_between
  rw [r_corelen h ha, bd_s, r_corelen h hb, imin_nI (by omega) (by omega), Nat.min_eq_left la, lt', bd_s, imin_nI (by omega) (by omega), Nat.min_eq_left lb, lt']
  refine Exists.elim (lpI (fun n j (y : Sg) => f_DI_between_27 n (nI a) (nI b) (nI (cln N a)) (nI (cln N b)) (nI j) y) (cln N b + 1) (fun j y => Fr [109] σ y ∧ ∀ k, k < j → y 109 k = nI k) ?_ 0 FU σ (Nat.zero_le _) (by unfold FU; omega) ⟨Fr.rf _ _, fun k hk => absurd hk (Nat.not_lt_zero _)⟩) ?_
  · intro n j y hj hI
    obtain ⟨hF, hR⟩ := hI
    show ∃ z, _ ∧ f_DI_between_27 (n + 1) (nI a) (nI b) (nI (cln N a)) (nI (cln N b)) (nI j) y = _
    rw [f_DI_between_27, if_neg (fun w => by have := (nI_ltI (by omega) (by omega)).mp w; omega), inb_n (by omega) (by omega), gd_t, nI_clamp (by omega), lt', nI_add]
    refine ⟨_, ⟨hF.up _ _ (by decide), fun k hk => ?_⟩, rfl⟩
    rw [up_s]
    by_cases z : k = j
    · rw [z, upd_s]
    · rw [upd_n _ _ z]; exact hR k (by omega)
  rintro m ⟨x, ⟨hF0, h0⟩, heq⟩
  have hq : f_DI_between_27 (m + 1) (nI a) (nI b) (nI (cln N a)) (nI (cln N b)) (nI (cln N b + 1)) x = f_DI_between_52 FU (nI a) (nI b) (nI (cln N a)) (nI (cln N b)) (nI 1) x := by
    rw [f_DI_between_27, if_pos ((nI_ltI (by omega) (by omega)).mpr (Nat.lt_succ_self _))]
  have heq := heq.trans hq
  refine Exists.elim (lpI (fun n i (y : Sg) => f_DI_between_52 n (nI a) (nI b) (nI (cln N a)) (nI (cln N b)) (nI (i + 1)) y) (cln N a) (fun i y => Fr [109] σ y ∧ ∀ k, k ≤ cln N b → y 109 k = nI (drw (crr N a) (crr N b) i k)) ?_ 0 FU x (Nat.zero_le _) (by unfold FU; omega) ⟨hF0, fun k hk => h0 k (by omega)⟩) ?_
  · intro n i y hi hI
    obtain ⟨hF, hR⟩ := hI
    obtain ⟨z, z1, z2, z3⟩ := s_line (h.fr hF (by decide)) ha hb hi hR
    show ∃ z, _ ∧ f_DI_between_52 (n + 1) (nI a) (nI b) (nI (cln N a)) (nI (cln N b)) (nI (i + 1)) y = _
    rw [f_DI_between_52, if_neg (fun w => by have := (nI_ltI (by omega) (by omega)).mp w; omega), z1, bd_s, nI_add]
    exact ⟨z, ⟨hF.tr z2, z3⟩, rfl⟩
  · rintro m2 ⟨y, ⟨hF, hR⟩, heq2⟩
    refine ⟨y, heq.trans (heq2.trans ?_), hF⟩
    show f_DI_between_52 (m2 + 1) (nI a) (nI b) (nI (cln N a)) (nI (cln N b)) (nI (cln N a + 1)) y = _
    rw [f_DI_between_52, if_pos ((nI_ltI (by omega) (by omega)).mpr (Nat.lt_succ_self _)), s_at _ _ _ _ (by omega) (by decide), bd_s, hR _ (Nat.le_refl _)]
    rfl
/-! the reference's distance, by two rows -/
theorem m_far (hN : InvN N) (hk : CoreOK σ N) {a b : Nat} (ha : a < ev N) (hb : b < ev N) : ∃ y, f_MO_far (nI a) (nI b) σ = some (nI (dI N a b), y) ∧ Fr [131, 132] σ y := by
  have hE := hN.1.2
  have la := hN.cl ha
  have lb := hN.cl hb
  unfold f_MO_far
  rw [inb_n (by omega) (by omega), gd_t, nI_clamp (by omega), hk.1 a ha, lt', inb_n (by omega) (by omega), gd_t, nI_clamp (by omega), hk.1 b hb, lt']
  refine Exists.elim (lpI (fun n j (y : Sg) => f_MO_far_18 n (nI a) (nI b) (nI (cln N a)) (nI (cln N b)) (nI j) y) (cln N b + 1) (fun j y => Fr [131, 132] σ y ∧ ∀ k, k < j → y 131 k = nI k) ?_ 0 FU σ (Nat.zero_le _) (by unfold FU; omega) ⟨Fr.rf _ _, fun k hk => absurd hk (Nat.not_lt_zero _)⟩) ?_
  · intro n j y hj hI
    obtain ⟨hF, hR⟩ := hI
    show ∃ z, _ ∧ f_MO_far_18 (n + 1) (nI a) (nI b) (nI (cln N a)) (nI (cln N b)) (nI j) y = _
    rw [f_MO_far_18, if_neg (fun w => by have := (nI_ltI (by omega) (by omega)).mp w; omega), inb_n (by omega) (by omega), gd_t, nI_clamp (by omega), lt', nI_add]
    refine ⟨_, ⟨hF.up _ _ (by decide), fun k hk => ?_⟩, rfl⟩
    rw [up_s]
    by_cases z : k = j
    · rw [z, upd_s]
    · rw [upd_n _ _ z]; exact hR k (by omega)
  rintro m ⟨x, ⟨hF0, h0⟩, heq⟩
  have hq : f_MO_far_18 (m + 1) (nI a) (nI b) (nI (cln N a)) (nI (cln N b)) (nI (cln N b + 1)) x = f_MO_far_43 FU (nI a) (nI b) (nI (cln N a)) (nI (cln N b)) (nI 1) x := by
    rw [f_MO_far_18, if_pos ((nI_ltI (by omega) (by omega)).mpr (Nat.lt_succ_self _))]
  have heq := heq.trans hq
  refine Exists.elim (lpI (fun n i (y : Sg) => f_MO_far_43 n (nI a) (nI b) (nI (cln N a)) (nI (cln N b)) (nI (i + 1)) y) (cln N a) (fun i y => Fr [131, 132] σ y ∧ ∀ k, k ≤ cln N b → y 131 k = nI (drw (crr N a) (crr N b) i k)) ?_ 0 FU x (Nat.zero_le _) (by unfold FU; omega) ⟨hF0, fun k hk => h0 k (by omega)⟩) ?_
  · intro n i y hi hI
    obtain ⟨hF, hR⟩ := hI
    have hky := hk.fr hF (by decide)
    show ∃ z, _ ∧ f_MO_far_43 (n + 1) (nI a) (nI b) (nI (cln N a)) (nI (cln N b)) (nI (i + 1)) y = _
    rw [f_MO_far_43, if_neg (fun w => by have := (nI_ltI (by omega) (by omega)).mp w; omega), nI_mul, nI_add, mI_sub, mI_s (by omega), show 60 * a + (i + 1) - 1 = 60 * a + i by omega, inb_n (by omega) (by omega), gd_t, nI_clamp (by omega), hky.2 a i ha hi, lt', inb_n (by decide) (by decide), gd_t, nI_clamp (by decide), lt']
    generalize hy0 : up y 132 0 (nI (i + 1)) = y0
    have hG0 : Fr [131, 132] σ y0 := by rw [← hy0]; exact hF.up _ _ (by decide)
    have hA0 : ∀ k, k ≤ cln N b → y0 131 k = nI (drw (crr N a) (crr N b) i k) := fun k hk => by rw [← hy0, up_n _ _ _ (by decide)]; exact hR k hk
    refine Exists.elim (lpI (fun n2 j (z : Sg) => f_MO_far_76 (fun x1 x2 x3 x4 x5 σ => f_MO_far_43 n x1 x2 x3 x4 x5 σ) n2 (nI a) (nI b) (nI (cln N a)) (nI (cln N b)) (nI (i + 1)) (crr N a i) (nI (j + 1)) z) (cln N b) (fun j z => Fr [131, 132] σ z ∧ (∀ k, k ≤ cln N b → z 131 k = nI (drw (crr N a) (crr N b) i k)) ∧ ∀ k, k ≤ j → z 132 k = nI (drw (crr N a) (crr N b) (i + 1) k)) ?_ 0 FU y0 (Nat.zero_le _) (by unfold FU; omega) ⟨hG0, hA0, fun k hk => by rw [show k = 0 by omega, ← hy0, up_s, upd_s, drw_0]⟩) ?_
    · intro n2 j z hj hJ
      obtain ⟨hG, hA, hB⟩ := hJ
      have hkz := hk.fr hG (by decide)
      have b1 := drw_b (crr N a) (crr N b) i (j + 1)
      have b2 := drw_b (crr N a) (crr N b) (i + 1) j
      have b3 := drw_b (crr N a) (crr N b) i j
      show ∃ z', _ ∧ f_MO_far_76 (fun x1 x2 x3 x4 x5 σ => f_MO_far_43 n x1 x2 x3 x4 x5 σ) (n2 + 1) (nI a) (nI b) (nI (cln N a)) (nI (cln N b)) (nI (i + 1)) (crr N a i) (nI (j + 1)) z = _
      rw [f_MO_far_76, if_neg (fun w => by have := (nI_ltI (by omega) (by omega)).mp w; omega), mI_sub, mI_s (by omega), show j + 1 - 1 = j by omega, inb_n (by omega) (by omega), gd_t, nI_clamp (by omega), hA j (by omega), nI_mul, nI_add, mI_sub, mI_s (by omega), show 60 * b + (j + 1) - 1 = 60 * b + j by omega, inb_n (by omega) (by omega), gd_t, nI_clamp (by omega), hkz.2 b j hb hj]
      have tail : ∀ t, t = b2n (!(decide (crr N a i = crr N b j))) → ∃ z', (Fr [131, 132] σ z' ∧ (∀ k, k ≤ cln N b → z' 131 k = nI (drw (crr N a) (crr N b) i k)) ∧ ∀ k, k ≤ j + 1 → z' 132 k = nI (drw (crr N a) (crr N b) (i + 1) k)) ∧ f_MO_far_116 (fun x1 x2 x3 x4 x5 x6 x7 σ => f_MO_far_76 (fun x1 x2 x3 x4 x5 σ => f_MO_far_43 n x1 x2 x3 x4 x5 σ) n2 x1 x2 x3 x4 x5 x6 x7 σ) (nI a) (nI b) (nI (cln N a)) (nI (cln N b)) (nI (i + 1)) (crr N a i) (nI (j + 1)) (nI t) (nI (drw (crr N a) (crr N b) i j)) z = f_MO_far_76 (fun x1 x2 x3 x4 x5 σ => f_MO_far_43 n x1 x2 x3 x4 x5 σ) n2 (nI a) (nI b) (nI (cln N a)) (nI (cln N b)) (nI (i + 1)) (crr N a i) (nI (j + 1 + 1)) z' := by
        intro t ht
        have tb := b2n_le (!(decide (crr N a i = crr N b j)))
        have fin : ∀ v, v = drw (crr N a) (crr N b) (i + 1) (j + 1) → ∃ z', (Fr [131, 132] σ z' ∧ (∀ k, k ≤ cln N b → z' 131 k = nI (drw (crr N a) (crr N b) i k)) ∧ ∀ k, k ≤ j + 1 → z' 132 k = nI (drw (crr N a) (crr N b) (i + 1) k)) ∧ f_MO_far_187 (fun x1 x2 x3 x4 x5 x6 x7 σ => f_MO_far_76 (fun x1 x2 x3 x4 x5 σ => f_MO_far_43 n x1 x2 x3 x4 x5 σ) n2 x1 x2 x3 x4 x5 x6 x7 σ) (nI a) (nI b) (nI (cln N a)) (nI (cln N b)) (nI (i + 1)) (crr N a i) (nI (j + 1)) (nI v) (nI (j + 1)) z = f_MO_far_76 (fun x1 x2 x3 x4 x5 σ => f_MO_far_43 n x1 x2 x3 x4 x5 σ) n2 (nI a) (nI b) (nI (cln N a)) (nI (cln N b)) (nI (i + 1)) (crr N a i) (nI (j + 1 + 1)) z' := by
          intro v hv
          unfold f_MO_far_187
          rw [inb_n (by omega) (by omega), gd_t, nI_clamp (by omega), lt', nI_add]
          refine ⟨_, ⟨hG.up _ _ (by decide), fun k hk => by rw [up_n _ _ _ (by decide)]; exact hA k hk, fun k hk => ?_⟩, rfl⟩
          rw [up_s]
          by_cases q : k = j + 1
          · rw [q, upd_s, hv]
          · rw [upd_n _ _ q]; exact hB k (by omega)
        have mid : ∀ v, v = min (drw (crr N a) (crr N b) i j + t) (drw (crr N a) (crr N b) i (j + 1) + 1) → ∃ z', (Fr [131, 132] σ z' ∧ (∀ k, k ≤ cln N b → z' 131 k = nI (drw (crr N a) (crr N b) i k)) ∧ ∀ k, k ≤ j + 1 → z' 132 k = nI (drw (crr N a) (crr N b) (i + 1) k)) ∧ f_MO_far_147 (fun x1 x2 x3 x4 x5 x6 x7 σ => f_MO_far_76 (fun x1 x2 x3 x4 x5 σ => f_MO_far_43 n x1 x2 x3 x4 x5 σ) n2 x1 x2 x3 x4 x5 x6 x7 σ) (nI a) (nI b) (nI (cln N a)) (nI (cln N b)) (nI (i + 1)) (crr N a i) (nI (j + 1)) (nI v) z = f_MO_far_76 (fun x1 x2 x3 x4 x5 σ => f_MO_far_43 n x1 x2 x3 x4 x5 σ) n2 (nI a) (nI b) (nI (cln N a)) (nI (cln N b)) (nI (i + 1)) (crr N a i) (nI (j + 1 + 1)) z' := by
          intro v hv
          unfold f_MO_far_147
          rw [mI_sub, mI_s (by omega), show j + 1 - 1 = j by omega, inb_n (by omega) (by omega), gd_t, gd_t, nI_clamp (by omega), hB j (Nat.le_refl _), nI_add]
          by_cases q : v ≤ drw (crr N a) (crr N b) (i + 1) j + 1
          · rw [if_pos ((nI_leI (by omega) (by omega)).mpr q)]
            exact fin v (by rw [drw_s, ← ht]; omega)
          · rw [if_neg (fun w => q ((nI_leI (by omega) (by omega)).mp w))]
            exact fin _ (by rw [drw_s, ← ht]; omega)
        unfold f_MO_far_116
        rw [nI_add, lt', inb_n (by omega) (by omega), gd_t, gd_t, nI_clamp (by omega), hA (j + 1) (by omega), nI_add]
        by_cases q : drw (crr N a) (crr N b) i j + t ≤ drw (crr N a) (crr N b) i (j + 1) + 1
        · rw [if_pos ((nI_leI (by omega) (by omega)).mpr q)]
          exact mid _ (by omega)
        · rw [if_neg (fun w => q ((nI_leI (by omega) (by omega)).mp w))]
          exact mid _ (by omega)
      by_cases q : crr N a i = crr N b j
      · rw [if_pos q]
        exact tail 0 (by rw [decide_eq_true q]; rfl)
      · rw [if_neg q]
        exact tail 1 (by rw [decide_eq_false q]; rfl)
    · rintro m2 ⟨z, ⟨hG, hA, hB⟩, heq2⟩
      have hq2 : f_MO_far_76 (fun x1 x2 x3 x4 x5 σ => f_MO_far_43 n x1 x2 x3 x4 x5 σ) (m2 + 1) (nI a) (nI b) (nI (cln N a)) (nI (cln N b)) (nI (i + 1)) (crr N a i) (nI (cln N b + 1)) z = f_MO_far_197 (fun x1 x2 x3 x4 x5 σ => f_MO_far_43 n x1 x2 x3 x4 x5 σ) FU (nI a) (nI b) (nI (cln N a)) (nI (cln N b)) (nI (i + 1)) (nI 0) z := by
        rw [f_MO_far_76, if_pos ((nI_ltI (by omega) (by omega)).mpr (Nat.lt_succ_self _))]
      have heq3 := heq2.trans hq2
      refine Exists.elim (lpI (fun n3 j (u : Sg) => f_MO_far_197 (fun x1 x2 x3 x4 x5 σ => f_MO_far_43 n x1 x2 x3 x4 x5 σ) n3 (nI a) (nI b) (nI (cln N a)) (nI (cln N b)) (nI (i + 1)) (nI j) u) (cln N b + 1) (fun j u => Fr [131, 132] σ u ∧ (∀ k, k ≤ cln N b → u 132 k = nI (drw (crr N a) (crr N b) (i + 1) k)) ∧ ∀ k, k < j → u 131 k = nI (drw (crr N a) (crr N b) (i + 1) k)) ?_ 0 FU z (Nat.zero_le _) (by unfold FU; omega) ⟨hG, hB, fun k hk => absurd hk (Nat.not_lt_zero _)⟩) ?_
      · intro n3 j u hj hJ
        obtain ⟨hU, hV, hW⟩ := hJ
        show ∃ z', _ ∧ f_MO_far_197 (fun x1 x2 x3 x4 x5 σ => f_MO_far_43 n x1 x2 x3 x4 x5 σ) (n3 + 1) (nI a) (nI b) (nI (cln N a)) (nI (cln N b)) (nI (i + 1)) (nI j) u = _
        rw [f_MO_far_197, if_neg (fun w => by have := (nI_ltI (by omega) (by omega)).mp w; omega), inb_n (by omega) (by omega), gd_t, gd_t, nI_clamp (by omega), hV j (by omega), lt', nI_add]
        refine ⟨_, ⟨hU.up _ _ (by decide), fun k hk => by rw [up_n _ _ _ (by decide)]; exact hV k hk, fun k hk => ?_⟩, rfl⟩
        rw [up_s]
        by_cases q : k = j
        · rw [q, upd_s]
        · rw [upd_n _ _ q]; exact hW k (by omega)
      · rintro m3 ⟨u, ⟨hU, hV, hW⟩, heq4⟩
        refine ⟨u, ⟨hU, fun k hk => hW k (by omega)⟩, heq3.trans (heq4.trans ?_)⟩
        show f_MO_far_197 (fun x1 x2 x3 x4 x5 σ => f_MO_far_43 n x1 x2 x3 x4 x5 σ) (m3 + 1) (nI a) (nI b) (nI (cln N a)) (nI (cln N b)) (nI (i + 1)) (nI (cln N b + 1)) u = _
        rw [f_MO_far_197, if_pos ((nI_ltI (by omega) (by omega)).mpr (Nat.lt_succ_self _)), nI_add]
  · rintro m2 ⟨y, ⟨hF, hR⟩, heq2⟩
    refine ⟨y, heq.trans (heq2.trans ?_), hF⟩
    show f_MO_far_43 (m2 + 1) (nI a) (nI b) (nI (cln N a)) (nI (cln N b)) (nI (cln N a + 1)) y = _
    rw [f_MO_far_43, if_pos ((nI_ltI (by omega) (by omega)).mpr (Nat.lt_succ_self _)), inb_n (by omega) (by omega), gd_t, nI_clamp (by omega), hR _ (Nat.le_refl _)]
    rfl
end DI1
