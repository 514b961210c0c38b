/-! first places, likeness -/
theorem fsti_le (p : Nat → Bool) (n : Nat) : fsti p n ≤ n := by
  induction n with
  | zero => exact Nat.le_refl _
  | succ n ih =>
    rw [fsti]
    by_cases h : fsti p n < n
    · rw [if_pos h]; omega
    · rw [if_neg h]
      by_cases h2 : p n = true
      · rw [if_pos h2]; omega
      · rw [if_neg h2]; omega
theorem fsti_no (p : Nat → Bool) (n : Nat) : ∀ k, k < fsti p n → p k = false := by
  induction n with
  | zero => intro k hk; exact absurd hk (Nat.not_lt_zero _)
  | succ n ih =>
    intro k hk
    rw [fsti] at hk
    by_cases h : fsti p n < n
    · rw [if_pos h] at hk; exact ih k hk
    · rw [if_neg h] at hk
      have hn : fsti p n = n := by have := fsti_le p n; omega
      by_cases h2 : p n = true
      · rw [if_pos h2] at hk; exact ih k (by omega)
      · rw [if_neg h2] at hk
        rcases Nat.lt_or_ge k n with q | q
        · exact ih k (by omega)
        · rw [show k = n by omega]; simpa using h2
theorem fsti_yes (p : Nat → Bool) (n : Nat) (h : fsti p n < n) : p (fsti p n) = true := by
  induction n with
  | zero => exact absurd h (Nat.not_lt_zero _)
  | succ n ih =>
    rw [fsti] at h ⊢
    by_cases h1 : fsti p n < n
    · rw [if_pos h1]; exact ih h1
    · rw [if_neg h1] at h ⊢
      by_cases h2 : p n = true
      · rw [if_pos h2]; exact h2
      · rw [if_neg h2] at h; omega
theorem fsti_eq {p : Nat → Bool} {n k : Nat} (hk : k < n) (h : p k = true) (h2 : ∀ j, j < k → p j = false) : fsti p n = k := by
  rcases Nat.lt_trichotomy (fsti p n) k with q | q | q
  · have := fsti_yes p n (by omega)
    rw [h2 _ q] at this
    cases this
  · exact q
  · rw [fsti_no p n k q] at h
    cases h
theorem fsti_none {p : Nat → Bool} {n : Nat} (h : ∀ j, j < n → p j = false) : fsti p n = n := by
  rcases Nat.lt_or_ge (fsti p n) n with q | q
  · have := fsti_yes p n q
    rw [h _ q] at this
    cases this
  · have := fsti_le p n
    omega
theorem alk_iff (N : Rw) (a b : Nat) : alk N a b = true ↔ cln N a = cln N b ∧ ∀ j, j < cln N a → crr N a j = crr N b j := by
  simp only [alk, Bool.and_eq_true, decide_eq_true_eq, List.all_eq_true, List.mem_range]
theorem alk_rf (N : Rw) (a : Nat) : alk N a a = true := (alk_iff N a a).mpr ⟨rfl, fun _ _ => rfl⟩
theorem alk_sy {N : Rw} {a b : Nat} (h : alk N a b = true) : alk N b a = true := by
  obtain ⟨h1, h2⟩ := (alk_iff N a b).mp h
  exact (alk_iff N b a).mpr ⟨h1.symm, fun j hj => (h2 j (by omega)).symm⟩
theorem alk_tr {N : Rw} {a b c : Nat} (h : alk N a b = true) (k : alk N b c = true) : alk N a c = true := by
  obtain ⟨h1, h2⟩ := (alk_iff N a b).mp h
  obtain ⟨k1, k2⟩ := (alk_iff N b c).mp k
  exact (alk_iff N a c).mpr ⟨h1.trans k1, fun j hj => (h2 j hj).trans (k2 j (by omega))⟩
theorem fal_le (N : Rw) (c : Nat) : fal N c ≤ c := fsti_le _ _
theorem fal_alk (N : Rw) (c : Nat) : alk N (fal N c) c = true := by
  rcases Nat.lt_or_ge (fal N c) c with q | q
  · exact fsti_yes (fun a => alk N a c) c q
  · rw [show fal N c = c by have := fal_le N c; omega]
    exact alk_rf N c
theorem fal_iff (N : Rw) (a b : Nat) : fal N a = fal N b ↔ alk N a b = true := by
  constructor
  · intro h
    have h1 := fal_alk N a
    have h2 := fal_alk N b
    rw [← h] at h2
    exact alk_tr (alk_sy h1) h2
  · intro h
    have key : ∀ a b : Nat, alk N a b = true → ¬ fal N a < fal N b := by
      intro a b h q
      have h1 := alk_tr (fal_alk N a) h
      have h2 : alk N (fal N a) b = false := fsti_no (fun x => alk N x b) b _ q
      rw [show alk N (fal N a) b = true from h1] at h2
      cases h2
    have h1 := key a b h
    have h2 := key b a (alk_sy h)
    omega
theorem tie_sy {N : Rw} (h : InvN N) {a b : Nat} (ha : a < 20) (hb : b < 20) (k : tie N a b = true) : tie N b a = true := by
  simp only [tie, Bool.or_eq_true] at k ⊢
  rcases k with k | k
  · left
    rw [h.2.2.2.2.2.1 b a hb ha]
    exact k
  · exact Or.inr (alk_sy k)
theorem hasL_t {N : Rw} {c b : Nat} (h : lkd N c b = true) : hasL N c = true := by
  simp only [hasL, Bool.not_eq_true', decide_eq_false_iff_not]
  intro q
  unfold lkd at h
  rw [q, Nat.zero_testBit] at h
  cases h
theorem hasL_f {N : Rw} {c : Nat} (hm : vN (N (49 + c)) < 1048576) (h : ∀ b, b < 20 → lkd N c b = false) : hasL N c = false := by
  simp only [hasL, Bool.not_eq_false', decide_eq_true_eq]
  apply Nat.eq_of_testBit_eq
  intro i
  rw [Nat.zero_testBit]
  rcases Nat.lt_or_ge i 20 with q | q
  · exact h i q
  · exact Nat.testBit_lt_two_pow (Nat.lt_of_lt_of_le hm (show 2 ^ 20 ≤ 2 ^ i from Nat.pow_le_pow_right (by decide) q))
section RD2
variable {σ : Sg} {N : Rw}
theorem r_at7 (h : QS σ N) {a : Nat} (ha : a < ev N) : σ 7 a = nI (fal N a) := h.2.2.2.2.2.2.2.2.2.1 a ha
theorem r_alike (h : QS σ N) {a b : Nat} (ha : a < ev N) (hb : b < ev N) : f_ST_areAlike (nI a) (nI b) σ = some (bI (alk N a b), σ) := by
  have hE := h.2.1.1.2
  unfold f_ST_areAlike
  rw [s_at _ _ _ _ (by omega) (by decide), bd_s, s_at _ _ _ _ (by omega) (by decide), bd_s, r_at7 h ha, r_at7 h hb, if_b ((nI_eq (by have := fal_le N a; omega) (by have := fal_le N b; omega)).trans (fal_iff N a b))]
  cases alk N a b <;> rfl
theorem r_tied (h : QS σ N) {a b : Nat} (ha : a < ev N) (hb : b < ev N) : f_GR_areTied (nI a) (nI b) σ = some (bI (tie N a b), σ) := by
  have hE := h.2.1.1.2
  unfold f_GR_areTied
  rw [r_linked h (by omega) (by omega), bd_s, r_alike h ha hb]
  unfold tie
  cases lkd N a b <;> cases alk N a b <;> rfl
theorem r_sofar (h : QS σ N) : f_ST_captionsSoFar σ = some (nI (ev N), σ) := by
  unfold f_ST_captionsSoFar
  rw [show σ 0 0 = nI (ev N) from h.2.2.1.trans h.2.1.1.1]
theorem r_capsIn (h : QS σ N) : f_ST_captionsIn σ = some (nI (cnt (inn N) 20), σ) := by
  unfold f_ST_captionsIn
  refine lpS (fun n i x => f_ST_captionsIn_4 n (nI x) (nI i) σ) 20 (fun i => b2n (inn N i)) (fun x => some (nI x, σ)) ?_ ?_ FU (by decide)
  · intro n i x hi hx
    show f_ST_captionsIn_4 (n + 1) (nI x) (nI i) σ = _
    rw [f_ST_captionsIn_4]
    simp (disch := omega) only [nI_leI, nI_ltI, nI_eq, nI_add, nI_mul, inb_n, nI_clamp, ne5a, ne1a, if_neg, r_isInN h i hi, bd_s, bI_0]
    cases inn N i <;> rfl
  · intro n
    show f_ST_captionsIn_4 (n + 1) _ (nI 20) σ = _
    rw [f_ST_captionsIn_4]
    simp (disch := omega) only [nI_leI, nI_ltI, nI_eq, nI_add, nI_mul, inb_n, nI_clamp, ne5a, ne1a, if_pos]
theorem r_author (h : QS σ N) {c : Nat} (hc : c < 20) : f_ST_authorOf (nI c) σ = some (N (9 + c), σ) := by
  unfold f_ST_authorOf
  rw [s_at _ _ _ _ hc (by decide), bd_s, show σ 2 c = N (9 + c) from h.2.2.2.2.1 c hc]
theorem r_length (h : QS σ N) {c : Nat} (hc : c < ev N) : f_ST_lengthOf (nI c) σ = some (nI (lng N c), σ) := by
  have hE := h.2.1.1.2
  unfold f_ST_lengthOf
  rw [s_at _ _ _ _ (by omega) (by decide), bd_s, show σ 4 c = nI (lng N c) from (h.2.2.2.2.2.2.1 c hc).trans (h.2.1.2.2.2.1 c hc).1]
theorem r_corelen (h : QS σ N) {c : Nat} (hc : c < ev N) : f_ST_coreLengthOf (nI c) σ = some (nI (cln N c), σ) := by
  have hE := h.2.1.1.2
  unfold f_ST_coreLengthOf
  rw [s_at _ _ _ _ (by omega) (by decide), bd_s, show σ 6 c = nI (cln N c) from h.2.2.2.2.2.2.2.2.1 c hc]
theorem r_corelet (h : QS σ N) {c j : Nat} (hc : c < ev N) (hj : j < cln N c) : f_ST_coreLetter (nI c) (nI j) σ = some (crr N c j, σ) := by
  have hE := h.2.1.1.2
  have hL := h.2.1.cl hc
  unfold f_ST_coreLetter
  rw [r_corelen h hc, bd_s, s_idxN _ _ _ (by omega) (by omega), bd_s, decide_eq_true hj, if_neg (by decide)]
  simp (disch := omega) only [nI_leI, nI_ltI, nI_eq, nI_add, nI_mul, inb_n, nI_clamp, ne5a, ne1a]
  rw [s_at _ _ _ _ (by omega) (by decide), bd_s, show c * 60 + j = 60 * c + j by omega, show σ 5 (60 * c + j) = crr N c j from h.2.2.2.2.2.2.2.1 c j hc hj]
theorem r_textlet (h : QS σ N) {c : Nat} (hc : c < ev N) (x : Int32) : f_ST_textLetter (nI c) x σ = some (if plc (lng N c) x < lng N c then txt N c (plc (lng N c) x) else -5, σ) := by
  have hE := h.2.1.1.2
  have hL := (h.2.1.2.2.2.1 c hc).2
  unfold f_ST_textLetter
  rw [r_length h hc, bd_s, s_idx _ _ _ (by omega), bd_s]
  by_cases q : plc (lng N c) x < lng N c
  · have e := plc_lt (by omega) q
    rw [decide_eq_true q, if_neg (by decide), if_pos q]
    generalize plc (lng N c) x = j at q e
    subst e
    simp (disch := omega) only [nI_leI, nI_ltI, nI_eq, nI_add, nI_mul, inb_n, nI_clamp, ne5a, ne1a]
    rw [s_at _ _ _ _ (by omega) (by decide), bd_s, show c * 60 + j = 60 * c + j by omega, show σ 3 (60 * c + j) = txt N c j from h.2.2.2.2.2.1 c j hc q]
  · rw [decide_eq_false q, if_pos (by decide), if_neg q]
theorem r_hasLinks (h : QS σ N) {c : Nat} (hc : c < 20) : f_ST_hasLinks (nI c) σ = some (bI (hasL N c), σ) := by
  unfold f_ST_hasLinks
  refine lpE (fun n i (_ : Unit) => f_ST_hasLinks_2 n (nI c) (nI i) σ) 20 (fun i _ => ∀ b, b < i → lkd N c b = false) (fun r => r = some (bI (hasL N c), σ)) ?_ ?_ 20 0 FU () rfl (by decide) (fun b hb => absurd hb (Nat.not_lt_zero _))
  · intro n i _ hi hI
    show f_ST_hasLinks_2 (n + 1) (nI c) (nI i) σ = _ ∨ _
    rw [f_ST_hasLinks_2]
    simp (disch := omega) only [nI_leI, nI_ltI, nI_eq, nI_add, nI_mul, inb_n, nI_clamp, ne5a, ne1a, if_neg, r_linked h hc hi, bd_s, bI_0]
    cases q : lkd N c i
    · right
      refine ⟨(), fun b hb => ?_, rfl⟩
      rcases Nat.lt_or_ge b i with z | z
      · exact hI b z
      · rw [show b = i by omega]; exact q
    · left
      rw [if_neg (by simp), hasL_t q]
      rfl
  · intro n _ hI
    show f_ST_hasLinks_2 (n + 1) (nI c) (nI 20) σ = _
    rw [f_ST_hasLinks_2]
    simp (disch := omega) only [nI_leI, nI_ltI, nI_eq, nI_add, nI_mul, inb_n, nI_clamp, ne5a, ne1a, if_pos]
    rw [hasL_f (h.2.1.2.2.2.2.1 c hc).2 hI]
    rfl
theorem r_linksIn (h : QS σ N) {c : Nat} (hc : c < 20) : f_ST_linksInContest (nI c) σ = some (nI (cnt (fun b => inn N b && lkd N c b) 20), σ) := by
  unfold f_ST_linksInContest
  refine lpS (fun n i x => f_ST_linksInContest_4 n (nI c) (nI x) (nI i) σ) 20 (fun b => b2n (inn N b && lkd N c b)) (fun x => some (nI x, σ)) ?_ ?_ FU (by decide)
  · intro n i x hi hx
    show f_ST_linksInContest_4 (n + 1) (nI c) (nI x) (nI i) σ = _
    rw [f_ST_linksInContest_4]
    simp (disch := omega) only [nI_leI, nI_ltI, nI_eq, nI_add, nI_mul, inb_n, nI_clamp, ne5a, ne1a, if_neg, r_isInN h i hi, r_linked h hc hi, bd_s, bI_0]
    cases inn N i <;> cases lkd N c i <;> rfl
  · intro n
    show f_ST_linksInContest_4 (n + 1) (nI c) _ (nI 20) σ = _
    rw [f_ST_linksInContest_4]
    simp (disch := omega) only [nI_leI, nI_ltI, nI_eq, nI_add, nI_mul, inb_n, nI_clamp, ne5a, ne1a, if_pos]
end RD2
