/-! readers of the reference -/
def MR (σ : Sg) (N : Rw) : Prop := (∀ i, i < 1385 → σ 113 i = N i) ∧ InvN N
theorem MR.fr {σ σ' : Sg} {N : Rw} {L : List Nat} (h : MR σ N) (hf : Fr L σ σ') (hL : L.all (fun c => !(c == 113)) = true) : MR σ' N := by
  refine ⟨fun i hi => ?_, h.2⟩
  rw [hf 113 (fun q => by have := List.all_eq_true.mp hL 113 q; simp at this)]
  exact h.1 i hi
theorem m_in (σ : Sg) (x lo hi : Int32) : f_MO_in x lo hi σ = some (bI (decide (lo ≤ x) && decide (x ≤ hi)), σ) := by
  unfold f_MO_in
  by_cases h1 : lo ≤ x
  · rw [if_neg (Int32.not_lt.mpr h1), decide_eq_true h1]
    by_cases h2 : x ≤ hi
    · rw [if_neg (Int32.not_lt.mpr h2), decide_eq_true h2]; rfl
    · rw [if_pos (Int32.not_le.mp h2), decide_eq_false h2]; rfl
  · rw [if_pos (Int32.not_le.mp h1), decide_eq_false h1]; rfl
theorem m_inN (σ : Sg) (a lo hi : Nat) (ha : a < 2147483648) (hl : lo < 2147483648) (hh : hi < 2147483648) : f_MO_in (nI a) (nI lo) (nI hi) σ = some (bI (decide (lo ≤ a) && decide (a ≤ hi)), σ) := by
  rw [m_in]
  simp (disch := omega) only [nI_leI, nI_ltI, nI_eq, nI_add, nI_mul, inb_n, nI_clamp, ne5a, ne1a]
theorem m_inP (σ : Sg) (x : Int32) (hi : Nat) (hh : hi < 2147483647) : f_MO_in x (nI 0) (nI hi) σ = some (bI (decide (plc (hi + 1) x < hi + 1)), σ) := by
  rw [m_in]
  by_cases q : plc (hi + 1) x < hi + 1
  · have e := plc_lt (by omega) q
    rw [decide_eq_true q]
    generalize plc (hi + 1) x = j at q e
    subst e
    simp (disch := omega) only [nI_leI, nI_ltI, nI_eq, nI_add, nI_mul, inb_n, nI_clamp, ne5a, ne1a]
    rw [decide_eq_true (Nat.zero_le _), decide_eq_true (by omega)]
    rfl
  · rw [decide_eq_false q]
    rcases plc_ge (by omega) q with h | h
    · rw [decide_eq_false (Int32.not_le.mpr h)]; rfl
    · rw [decide_eq_false (p := x ≤ nI hi)]
      · cases decide (nI 0 ≤ x) <;> rfl
      · intro h2
        have h3 := Int32.le_trans h h2
        rw [nI_leI (by omega) (by omega)] at h3
        omega
section MRD
variable {σ : Sg} {N : Rw}
theorem m_ev (h : MR σ N) : σ 113 0 = nI (ev N) := (h.1 0 (by omega)).trans h.2.1.1
theorem m_is (h : MR σ N) (x : Int32) : f_MO_is x σ = some (bI (inn N (plc 20 x)), σ) := by
  unfold f_MO_is
  have hE := h.2.1.2
  simp (disch := omega) only [nI_leI, nI_ltI, nI_eq, nI_add, nI_mul, inb_n, nI_clamp, ne5a, ne1a, gd_t]
  rw [m_ev h]
  by_cases e0 : ev N = 0
  · rw [e0, m_in, bd_s]
    have h1 : (decide (nI 0 ≤ x) && decide (x ≤ nI 0 - nI 1)) = false := by
      by_cases q : x ≤ nI 0 - nI 1
      · rw [decide_eq_false (p := nI 0 ≤ x)]
        · rfl
        · intro q2
          have := Int32.le_trans q2 q
          exact absurd this (by decide)
      · rw [decide_eq_false q]; cases decide (nI 0 ≤ x) <;> rfl
    rw [h1, if_pos (by decide)]
    have h2 : inn N (plc 20 x) = false := by
      cases q : inn N (plc 20 x)
      · rfl
      · have := (h.2.in_lt q).2; omega
    rw [h2]; rfl
  · rw [pk_sub (by omega), m_inP _ _ _ (by omega), bd_s, show ev N - 1 + 1 = ev N by omega]
    by_cases q : plc (ev N) x < ev N
    · have e := plc_lt (by omega) q
      rw [decide_eq_true q, if_neg (by decide)]
      generalize plc (ev N) x = j at q e
      subst e
      rw [plc_nI (by decide) (by omega)]
      simp (disch := omega) only [nI_leI, nI_ltI, nI_eq, nI_add, nI_mul, inb_n, nI_clamp, ne5a, ne1a, gd_t]
      rw [h.1 _ (by omega), (h.2.2.1 j (by omega)).1, if_b (bI_1 _)]
      cases inn N j <;> rfl
    · rw [decide_eq_false q, if_pos (by decide)]
      have h2 : inn N (plc 20 x) = false := by
        cases q3 : inn N (plc 20 x)
        · rfl
        · have h3 := h.2.in_lt q3
          have e := plc_lt (by decide) h3.1
          rw [e, plc_nI (by omega) h3.2] at q
          exact absurd h3.2 q
      rw [h2]; rfl
theorem m_isN (h : MR σ N) {c : Nat} (hc : c < 20) : f_MO_is (nI c) σ = some (bI (inn N c), σ) := by
  rw [m_is h, plc_nI (by decide) hc]
theorem cnt_in (h : InvN N) (p : Nat → Bool) : cnt (fun c => inn N c && p c) (ev N) = cnt (fun c => inn N c && p c) 20 := by
  refine (sm_out h.1.2 (fun i h1 h2 => ?_)).symm
  cases q : inn N i
  · simp [q, b2n]
  · have := (h.in_lt q).2; omega
theorem cnt_in' (h : InvN N) : cnt (inn N) (ev N) = cnt (inn N) 20 := by
  refine (sm_out h.1.2 (fun i h1 h2 => ?_)).symm
  cases q : inn N i
  · rfl
  · have := (h.in_lt q).2; omega
theorem m_there (h : MR σ N) : f_MO_there σ = some (nI (cnt (inn N) 20), σ) := by
  have hE := h.2.1.2
  unfold f_MO_there
  rw [← cnt_in' h.2]
  refine lpS (fun n i x => f_MO_there_4 n (nI x) (nI i) σ) (ev N) (fun i => b2n (inn N i)) (fun x => some (nI x, σ)) ?_ ?_ FU (by unfold FU; omega)
  · intro n i x hi hx
    show f_MO_there_4 (n + 1) (nI x) (nI i) σ = _
    rw [f_MO_there_4]
    simp (disch := omega) only [nI_leI, nI_ltI, nI_eq, nI_add, nI_mul, inb_n, nI_clamp, ne5a, ne1a, gd_t, m_ev h, if_neg, lt']
    rw [h.1 _ (by omega), (h.2.2.1 i (by omega)).1]
    show f_MO_there_4 n (nI x + nI (b2n (inn N i))) _ σ = _
    rw [nI_add]
  · intro n
    show f_MO_there_4 (n + 1) _ (nI (ev N)) σ = _
    rw [f_MO_there_4]
    simp (disch := omega) only [nI_leI, nI_ltI, nI_eq, nI_add, nI_mul, inb_n, nI_clamp, ne5a, ne1a, gd_t, m_ev h, if_pos]
theorem m_isLetter (σ : Sg) (x : Int32) : f_MO_isLetter x σ = some (bI (isLb x), σ) := by
  unfold f_MO_isLetter isLb
  rw [m_in, bd_s]
  cases (decide (nI 97 ≤ x) && decide (x ≤ nI 122))
  · rw [if_pos (by decide), m_in, bd_s]
    cases (decide (nI 65 ≤ x) && decide (x ≤ nI 90)) <;> rfl
  · rw [if_neg (by decide)]
    rfl
theorem m_small (σ : Sg) (x : Int32) : f_MO_small x σ = some (smf x, σ) := by
  unfold f_MO_small smf
  rw [m_in, bd_s]
  by_cases h1 : nI 65 ≤ x
  · by_cases h2 : x ≤ nI 90
    · rw [decide_eq_true h1, decide_eq_true h2, if_neg (by decide), if_pos ⟨h1, h2⟩]
    · rw [decide_eq_true h1, decide_eq_false h2, if_pos (by decide), if_neg (fun q => h2 q.2)]
  · rw [decide_eq_false h1, Bool.false_and, if_pos (by decide), if_neg (fun q => h1 q.1)]
def isSb (x : Int32) : Bool := decide (x = nI 32) || decide (x = nI 46) || decide (x = nI 44) || decide (x = nI 33) || decide (x = nI 63) || decide (x = nI 39) || decide (x = nI 45)
theorem m_isSign (σ : Sg) (x : Int32) : f_MO_isSign x σ = some (bI (isLb x || isSb x), σ) := by
  unfold f_MO_isSign isSb
  rw [m_isLetter, bd_s]
  cases isLb x
  · rw [if_pos (by decide)]
    by_cases h1 : x = nI 32
    · simp [h1, bI, b2n]
    by_cases h2 : x = nI 46
    · simp [h2, bI, b2n]
    by_cases h3 : x = nI 44
    · simp [h3, bI, b2n]
    by_cases h4 : x = nI 33
    · simp [h4, bI, b2n]
    by_cases h5 : x = nI 63
    · simp [h5, bI, b2n]
    by_cases h6 : x = nI 39
    · simp [h6, bI, b2n]
    by_cases h7 : x = nI 45
    · simp [h7, bI, b2n]
    simp [h1, h2, h3, h4, h5, h6, h7, bI, b2n]
  · rw [if_neg (by decide)]
    rfl
theorem c_isGreat (σ : Sg) (x : Int32) : f_CT_isGreat x σ = some (bI (decide (nI 65 ≤ x) && decide (x ≤ nI 90)), σ) := m_in σ x _ _
theorem c_isSmall (σ : Sg) (x : Int32) : f_CT_isSmall x σ = some (bI (decide (nI 97 ≤ x) && decide (x ≤ nI 122)), σ) := m_in σ x _ _
theorem c_isLetter (σ : Sg) (x : Int32) : f_CT_isLetter x σ = some (bI (isLb x), σ) := by
  unfold f_CT_isLetter isLb
  rw [c_isSmall, bd_s]
  cases (decide (nI 97 ≤ x) && decide (x ≤ nI 122))
  · rw [if_pos (by decide), c_isGreat, bd_s]
    cases (decide (nI 65 ≤ x) && decide (x ≤ nI 90)) <;> rfl
  · rw [if_neg (by decide)]
    rfl
theorem c_smallOf (σ : Sg) (x : Int32) : f_CT_smallOf x σ = some (smf x, σ) := by
  unfold f_CT_smallOf smf
  rw [c_isGreat, bd_s]
  by_cases h1 : nI 65 ≤ x
  · by_cases h2 : x ≤ nI 90
    · rw [decide_eq_true h1, decide_eq_true h2, if_neg (by decide), if_pos ⟨h1, h2⟩]
    · rw [decide_eq_true h1, decide_eq_false h2, if_pos (by decide), if_neg (fun q => h2 q.2)]
  · rw [decide_eq_false h1, Bool.false_and, if_pos (by decide), if_neg (fun q => h1 q.1)]
theorem c_isSign (σ : Sg) (x : Int32) : f_CT_isSign x σ = some (bI (isSb x), σ) := by
  unfold f_CT_isSign isSb
  by_cases h1 : x = nI 32
  · simp [h1, bI, b2n]
  by_cases h2 : x = nI 46
  · simp [h2, bI, b2n]
  by_cases h3 : x = nI 44
  · simp [h3, bI, b2n]
  by_cases h4 : x = nI 33
  · simp [h4, bI, b2n]
  by_cases h5 : x = nI 63
  · simp [h5, bI, b2n]
  by_cases h6 : x = nI 39
  · simp [h6, bI, b2n]
  by_cases h7 : x = nI 45
  · simp [h7, bI, b2n]
  simp [h1, h2, h3, h4, h5, h6, h7, bI, b2n]
theorem m_sign (h : MR σ N) {c k : Nat} (hc : c < 20) (hk : k < 60) : f_MO_sign (nI c) (nI k) σ = some (txt N c k, σ) := by
  unfold f_MO_sign
  simp (disch := omega) only [nI_leI, nI_ltI, nI_eq, nI_add, nI_mul, inb_n, nI_clamp, ne5a, ne1a, gd_t]
  rw [h.1 _ (by omega)]
  rfl
theorem isr_bit {m b : Nat} (hm : m < 2147483648) (hb : b < 20) : ((isr (nI m) (nI b)) &&& nI 1 = nI 1) ↔ m.testBit b = true := by
  have hs : ∀ b, b < 20 → ((nI b &&& 31).toBitVec.smod 32).toNat = b := by decide
  unfold isr
  rw [pk_shrN hm _ b (hs b hb), pk_andN (by have := Nat.div_le_self m (2 ^ b); omega) 1 (by decide), nI_eq (by omega) (by decide), Nat.testBit_eq_decide_div_mod_eq, decide_eq_true_eq]
theorem m_linked (h : MR σ N) {a b : Nat} (ha : a < 20) (hb : b < 20) : f_MO_isLinked (nI a) (nI b) σ = some (bI (lkd N a b), σ) := by
  have hm := h.2.2.2.2.2.1 a ha
  unfold f_MO_isLinked
  simp (disch := omega) only [nI_leI, nI_ltI, nI_eq, nI_add, nI_mul, inb_n, nI_clamp, ne5a, ne1a, gd_t]
  rw [h.1 _ (by omega), hm.1, if_b (isr_bit (by omega) hb)]
  show (if lkd N a b = true then _ else _) = _
  cases lkd N a b <;> rfl
end MRD
