/-! the reference's cores, and likeness out of them -/
def CoreOK (σ : Sg) (N : Rw) : Prop := (∀ c, c < ev N → σ 130 c = nI (cln N c)) ∧ ∀ c j, c < ev N → j < cln N c → σ 129 (60 * c + j) = crr N c j
theorem CoreOK.fr {σ σ' : Sg} {N : Rw} {L : List Nat} (h : CoreOK σ N) (hf : Fr L σ σ') (hL : L.all (fun c => !(c == 129) && !(c == 130)) = true) : CoreOK σ' N := by
  have h1 : σ' 129 = σ 129 := hf 129 (fun q => by have := List.all_eq_true.mp hL 129 q; simp at this)
  have h2 : σ' 130 = σ 130 := hf 130 (fun q => by have := List.all_eq_true.mp hL 130 q; simp at this)
  exact ⟨fun c hc => by rw [h2]; exact h.1 c hc, fun c j hc hj => by rw [h1]; exact h.2 c j hc hj⟩
section TK
variable {σ : Sg} {N : Rw}
theorem crf_new {f : Rw} {n : Nat} (h : isLb (f n) = true) : crf f (n + 1) (lcn f n) = smf (f n) := by rw [crf, if_pos ⟨h, rfl⟩]
theorem crf_old {f : Rw} {n j : Nat} (h : j ≠ lcn f n ∨ isLb (f n) = false) : crf f (n + 1) j = crf f n j := by
  rw [crf, if_neg]
  intro q
  rcases h with h | h
  · exact h q.2
  · rw [h] at q; cases q.1
theorem m_takes_in (h : MR σ N) (K : Int32 → Sg → Option (Int32 × Sg)) {c : Nat} (hc : c < ev N) :
    ∃ σ', Fr [129] σ σ' ∧ (∀ j, j < 60 * c → σ' 129 j = σ 129 j) ∧ (∀ j, j < cln N c → σ' 129 (60 * c + j) = crr N c j) ∧ f_MO_takesCores_16 K FU (nI c) (nI 0) (nI 0) σ = K (nI (c + 1)) (up σ' 130 c (nI (cln N c))) := by
  have hE := h.2.1.2
  have hl := h.2.2.2.2.1 c hc
  refine Exists.elim (lpI (fun n i (x : Nat × Sg) => f_MO_takesCores_16 K n (nI c) (nI x.1) (nI i) x.2) (lng N c)
    (fun i x => x.1 = lcn (txt N c) i ∧ Fr [129] σ x.2 ∧ (∀ j, j < 60 * c → x.2 129 j = σ 129 j) ∧ ∀ j, j < lcn (txt N c) i → x.2 129 (60 * c + j) = crf (txt N c) i j) ?_ 0 FU (0, σ) (Nat.zero_le _) (by unfold FU; omega) ⟨rfl, Fr.rf _ _, fun _ _ => rfl, fun j hj => absurd hj (Nat.not_lt_zero _)⟩) ?_
  · intro n i x hi hI
    obtain ⟨e1, hF, hlo, hcr⟩ := hI
    have hm := h.fr hF (by decide)
    have hle := lcn_le (txt N c) i
    show ∃ y, _ ∧ f_MO_takesCores_16 K (n + 1) (nI c) (nI x.1) (nI i) x.2 = _
    rw [f_MO_takesCores_16]
    simp (disch := omega) only [nI_leI, nI_ltI, nI_eq, nI_add, nI_mul, inb_n, nI_clamp, ne5a, ne1a, gd_t]
    rw [hm.1 _ (by omega), hl.1, if_neg (nI_ge hi (by omega)), m_sign hm (by omega) (by omega), bd_s, m_isLetter, bd_s]
    cases q : isLb (txt N c i)
    · rw [if_pos (by decide)]
      refine ⟨(x.1, x.2), ⟨by rw [lcn, q]; exact e1, hF, hlo, fun j hj => ?_⟩, rfl⟩
      rw [crf_old (Or.inr q)]
      rw [lcn, q] at hj
      exact hcr j hj
    · rw [if_neg (by decide), m_sign hm (by omega) (by omega), bd_s, m_small, bd_s, e1]
      refine ⟨(x.1 + 1, up x.2 129 (60 * c + lcn (txt N c) i) (smf (txt N c i))), ⟨by rw [lcn, q, e1]; rfl, hF.up _ _ (by decide), fun j hj => ?_, fun j hj => ?_⟩, by rw [e1]; rfl⟩
      · show up _ 129 _ _ 129 j = _
        rw [up_s, upd_n _ _ (by omega)]
        exact hlo j hj
      · show up _ 129 _ _ 129 _ = _
        rw [up_s]
        rw [lcn, q] at hj
        by_cases e : j = lcn (txt N c) i
        · rw [e, upd_s, crf_new q]
        · rw [upd_n _ _ (by omega), crf_old (Or.inl e)]
          exact hcr j (by simp [b2n] at hj; omega)
  · rintro m ⟨y, ⟨e1, hF, hlo, hcr⟩, heq⟩
    refine ⟨y.2, hF, hlo, hcr, heq.trans ?_⟩
    have hm := h.fr hF (by decide)
    show f_MO_takesCores_16 K (m + 1) (nI c) (nI y.1) (nI (lng N c)) y.2 = _
    rw [f_MO_takesCores_16]
    simp (disch := omega) only [nI_leI, nI_ltI, nI_eq, nI_add, nI_mul, inb_n, nI_clamp, ne5a, ne1a, gd_t]
    rw [hm.1 _ (by omega), hl.1, if_pos (Int32.le_refl _), lt', e1]
    rfl
theorem m_takes (h : MR σ N) : ∃ σ', f_MO_takesCores σ = some (0, σ') ∧ Fr [129, 130] σ σ' ∧ CoreOK σ' N := by
  have hE := h.2.1.2
  unfold f_MO_takesCores
  refine Exists.elim (lpI (fun n i (x : Sg) => f_MO_takesCores_2 n (nI i) x) (ev N)
    (fun i x => Fr [129, 130] σ x ∧ (∀ c, c < i → x 130 c = nI (cln N c)) ∧ ∀ c j, c < i → j < cln N c → x 129 (60 * c + j) = crr N c j) ?_ 0 FU σ (Nat.zero_le _) (by unfold FU; omega) ⟨Fr.rf _ _, fun _ q => absurd q (Nat.not_lt_zero _), fun _ _ q => absurd q (Nat.not_lt_zero _)⟩) ?_
  · intro n i x hi hI
    obtain ⟨hF, h1, h2⟩ := hI
    have hm := h.fr hF (by decide)
    show ∃ y, _ ∧ f_MO_takesCores_2 (n + 1) (nI i) x = _
    rw [f_MO_takesCores_2]
    simp (disch := omega) only [nI_leI, nI_ltI, nI_eq, nI_add, nI_mul, inb_n, nI_clamp, ne5a, ne1a, gd_t]
    rw [m_ev hm, if_neg (nI_ge hi (by omega))]
    obtain ⟨σ', g1, g2, g3, g4⟩ := m_takes_in hm (fun x1 σ => f_MO_takesCores_2 n x1 σ) hi
    have g0 : ∀ j, up σ' 130 i (nI (cln N i)) 129 j = σ' 129 j := fun j => by rw [up_n _ _ _ (by decide)]
    refine ⟨up σ' 130 i (nI (cln N i)), ⟨(hF.tr (g1.mono (by decide))).up _ _ (by decide), fun c hc => ?_, fun c j hc hj => ?_⟩, g4⟩
    · rw [up_s]
      by_cases e : c = i
      · rw [e, upd_s]
      · rw [upd_n _ _ e, g1 130 (by decide)]
        exact h1 c (by omega)
    · rw [g0]
      by_cases e : c = i
      · rw [e] at hj ⊢
        exact g3 j hj
      · have := h.2.cl (c := c) (by omega)
        rw [g2 _ (by omega)]
        exact h2 c j (by omega) hj
  · rintro m ⟨y, ⟨hF, h1, h2⟩, heq⟩
    refine ⟨y, heq.trans ?_, hF, h1, h2⟩
    have hm := h.fr hF (by decide)
    show f_MO_takesCores_2 (m + 1) (nI (ev N)) y = _
    rw [f_MO_takesCores_2]
    simp (disch := omega) only [nI_leI, nI_ltI, nI_eq, nI_add, nI_mul, inb_n, nI_clamp, ne5a, ne1a, gd_t]
    rw [m_ev hm, if_pos (Int32.le_refl _)]
theorem m_alike (h : InvN N) (hk : CoreOK σ N) {a b : Nat} (ha : a < ev N) (hb : b < ev N) : f_MO_isAlike (nI a) (nI b) σ = some (bI (alk N a b), σ) := by
  have hE := h.1.2
  have hca := h.cl ha
  have hcb := h.cl hb
  unfold f_MO_isAlike
  simp (disch := omega) only [nI_leI, nI_ltI, nI_eq, nI_add, nI_mul, inb_n, nI_clamp, ne5a, ne1a, gd_t]
  rw [lt', hk.1 a ha, hk.1 b hb]
  have key : ∀ y : Bool, (y = decide (cln N a = cln N b)) → f_MO_isAlike_27 FU (nI a) (nI b) (nI (cln N a)) (bI y) (nI 0) σ = some (bI (alk N a b), σ) := by
    intro y hy
    refine lpE (fun n i (x : Bool) => f_MO_isAlike_27 n (nI a) (nI b) (nI (cln N a)) (bI x) (nI i) σ) (cln N a) (fun i x => (x = true → cln N a = cln N b ∧ ∀ j, j < i → crr N a j = crr N b j) ∧ (x = false → alk N a b = false)) (fun r => r = some (bI (alk N a b), σ)) ?_ ?_ (cln N a) 0 FU y (Nat.zero_add _) (by unfold FU; omega) ?_
    · intro n i x hi hI
      show f_MO_isAlike_27 (n + 1) (nI a) (nI b) (nI (cln N a)) (bI x) (nI i) σ = _ ∨ _
      rw [f_MO_isAlike_27]
      simp (disch := omega) only [nI_leI, nI_ltI, nI_eq, nI_add, nI_mul, inb_n, nI_clamp, ne5a, ne1a, if_neg, bI_0]
      cases x
      · left
        rw [if_pos rfl, hI.2 rfl]
        rfl
      · right
        obtain ⟨q1, q2⟩ := hI.1 rfl
        rw [if_neg (by decide)]
        simp (disch := omega) only [nI_leI, nI_ltI, nI_eq, nI_add, nI_mul, inb_n, nI_clamp, ne5a, ne1a, gd_t]
        rw [hk.2 a i ha hi, hk.2 b i hb (by omega)]
        by_cases e : crr N a i = crr N b i
        · rw [if_pos e]
          refine ⟨true, ⟨fun _ => ⟨q1, fun j hj => ?_⟩, fun q => by cases q⟩, rfl⟩
          rcases Nat.lt_or_ge j i with z | z
          · exact q2 j z
          · rw [show j = i by omega]; exact e
        · rw [if_neg e]
          refine ⟨false, ⟨(fun q => by cases q), fun _ => ?_⟩, rfl⟩
          cases q : alk N a b
          · rfl
          · exact absurd (((alk_iff N a b).mp q).2 i hi) e
    · intro n x hI
      show f_MO_isAlike_27 (n + 1) (nI a) (nI b) (nI (cln N a)) (bI x) (nI (cln N a)) σ = _
      rw [f_MO_isAlike_27, if_pos (Int32.le_refl _), bI_bit, gd_t]
      cases x
      · rw [hI.2 rfl]
      · rw [(alk_iff N a b).mpr (hI.1 rfl)]
    · refine ⟨fun q => ?_, fun q => ?_⟩
      · rw [hy, decide_eq_true_eq] at q
        exact ⟨q, fun j hj => absurd hj (Nat.not_lt_zero _)⟩
      · cases q2 : alk N a b
        · rfl
        · rw [hy, decide_eq_false_iff_not] at q
          exact absurd ((alk_iff N a b).mp q2).1 q
  by_cases e : cln N a = cln N b
  · rw [e, if_pos rfl, ← e]
    exact key true (decide_eq_true e).symm
  · rw [if_neg (by rw [nI_eq (by omega) (by omega)]; exact e)]
    exact key false (decide_eq_false e).symm
end TK
