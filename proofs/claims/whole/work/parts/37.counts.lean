/-! ballots as they are counted -/
def HC (σ : Sg) (N : Rw) : Prop := ∀ c, c < 20 → σ 83 c = hdc N c
def HM (σ : Sg) (N : Rw) : Prop := ∀ c, c < 20 → σ 117 c = hdm N c
theorem HC.fr {σ σ' : Sg} {N : Rw} {L : List Nat} (h : HC σ N) (hf : Fr L σ σ') (hL : L.all (fun c => !(c == 83)) = true) : HC σ' N := fun c hc => by
  rw [hf 83 (fun q => by have := List.all_eq_true.mp hL 83 q; simp at this)]
  exact h c hc
theorem HM.fr {σ σ' : Sg} {N : Rw} {L : List Nat} (h : HM σ N) (hf : Fr L σ σ') (hL : L.all (fun c => !(c == 117)) = true) : HM σ' N := fun c hc => by
  rw [hf 117 (fun q => by have := List.all_eq_true.mp hL 117 q; simp at this)]
  exact h c hc
noncomputable def hw (N : Rw) (n : Nat) : Int32 := if n = 0 then -5 else hdc N (n - 1)
noncomputable def gdup (N : Rw) (f : Nat → Nat) (n x : Nat) : Bool := (List.range n).any (fun k => decide (hd N (f k - 1) = hd N (x - 1)))
noncomputable def okw (N : Rw) (f : Nat → Nat) (n x : Nat) : Bool := (!(decide (x = 0)) && inn N (x - 1)) && !gdup N f n x
noncomputable def cb (N : Rw) (v : Nat) : Nat → Nat × (Nat → Nat)
  | 0 => (0, fun _ => 0)
  | w + 1 => if okw N (cb N v w).2 (cb N v w).1 (wsc N (3 * v + w)) = true then ((cb N v w).1 + 1, fun k => if k = (cb N v w).1 then wsc N (3 * v + w) else (cb N v w).2 k) else cb N v w
noncomputable def fil (N : Rw) (v w : Nat) : Nat := (cb N v w).1
noncomputable def cbd (N : Rw) (v w : Nat) : Nat → Nat := (cb N v w).2
noncomputable def okv (N : Rw) (v w : Nat) : Bool := okw N (cbd N v w) (fil N v w) (wsc N (3 * v + w))
noncomputable def fc (N : Rw) (c : Nat) : Nat := cbd N (c / 3) 3 (c % 3)
noncomputable def pw (N : Rw) (g c : Nat) : Nat := if fc N c ≠ 0 ∧ hd N (fc N c - 1) = g then 3 - c % 3 else 0
noncomputable def fw (N : Rw) (g c : Nat) : Nat := if (fc N c ≠ 0 ∧ hd N (fc N c - 1) = g) ∧ c % 3 = 0 then 1 else 0
noncomputable def pts (N : Rw) (g : Nat) : Nat := sm (pw N g) 36
noncomputable def frs (N : Rw) (g : Nat) : Nat := sm (fw N g) 36
theorem cb_t {N : Rw} {v w : Nat} (h : okv N v w = true) : fil N v (w + 1) = fil N v w + 1 ∧ ∀ k, cbd N v (w + 1) k = if k = fil N v w then wsc N (3 * v + w) else cbd N v w k := by
  have e : cb N v (w + 1) = ((cb N v w).1 + 1, fun k => if k = (cb N v w).1 then wsc N (3 * v + w) else (cb N v w).2 k) := by
    rw [cb]; exact if_pos h
  exact ⟨congrArg Prod.fst e, fun k => congrFun (congrArg Prod.snd e) k⟩
theorem cb_f {N : Rw} {v w : Nat} (h : okv N v w = false) : fil N v (w + 1) = fil N v w ∧ ∀ k, cbd N v (w + 1) k = cbd N v w k := by
  have e : cb N v (w + 1) = cb N v w := by
    rw [cb]; exact if_neg (by rw [show okw N (cb N v w).2 (cb N v w).1 (wsc N (3 * v + w)) = false from h]; decide)
  exact ⟨congrArg Prod.fst e, fun k => congrFun (congrArg Prod.snd e) k⟩
theorem okw_iff (N : Rw) (f : Nat → Nat) (n x : Nat) : okw N f n x = true ↔ (x ≠ 0 ∧ inn N (x - 1) = true) ∧ ∀ k, k < n → hd N (f k - 1) ≠ hd N (x - 1) := by
  simp [okw, gdup]
theorem fil_le (N : Rw) (v w : Nat) : fil N v w ≤ w := by
  induction w with
  | zero => exact Nat.le_refl _
  | succ w ih =>
    cases q : okv N v w
    · rw [(cb_f q).1]; omega
    · rw [(cb_t q).1]; omega
/-- what stands in the counted ballot after w wishes -/
theorem cbd_in (N : Rw) (v w : Nat) : (∀ k, k < fil N v w → cbd N v w k ≠ 0 ∧ inn N (cbd N v w k - 1) = true ∧ ∃ i, i < w ∧ cbd N v w k = wsc N (3 * v + i)) ∧ ∀ k, fil N v w ≤ k → cbd N v w k = 0 := by
  induction w with
  | zero => exact ⟨fun k hk => absurd hk (Nat.not_lt_zero _), fun k _ => rfl⟩
  | succ w ih =>
    cases q : okv N v w
    · obtain ⟨e1, e2⟩ := cb_f q
      refine ⟨fun k hk => ?_, fun k hk => ?_⟩
      · rw [e1] at hk
        obtain ⟨a, b, i, c, d⟩ := ih.1 k hk
        rw [e2]
        exact ⟨a, b, i, by omega, d⟩
      · rw [e1] at hk
        rw [e2]; exact ih.2 k hk
    · obtain ⟨e1, e2⟩ := cb_t q
      have h1 := ((okw_iff _ _ _ _).mp q).1
      refine ⟨fun k hk => ?_, fun k hk => ?_⟩
      · rw [e1] at hk
        rw [e2]
        by_cases z : k = fil N v w
        · rw [if_pos z]
          exact ⟨h1.1, h1.2, w, by omega, rfl⟩
        · rw [if_neg z]
          obtain ⟨a, b, i, c, d⟩ := ih.1 k (by omega)
          exact ⟨a, b, i, by omega, d⟩
      · rw [e1] at hk
        rw [e2, if_neg (by omega)]
        exact ih.2 k (by omega)
theorem cbd_st {N : Rw} {v w k : Nat} (hk : k < fil N v w) (j : Nat) : fil N v w ≤ fil N v (w + j) ∧ cbd N v (w + j) k = cbd N v w k := by
  induction j with
  | zero => exact ⟨Nat.le_refl _, rfl⟩
  | succ j ih =>
    rw [show w + (j + 1) = (w + j) + 1 by omega]
    cases q : okv N v (w + j)
    · obtain ⟨e1, e2⟩ := cb_f q
      rw [e1, e2]; exact ih
    · obtain ⟨e1, e2⟩ := cb_t q
      rw [e1, e2, if_neg (by omega)]
      exact ⟨by omega, ih.2⟩
theorem fc_at {N : Rw} {v k : Nat} (hk : k < 3) : fc N (3 * v + k) = cbd N v 3 k := by
  unfold fc
  rw [show (3 * v + k) / 3 = v by omega, show (3 * v + k) % 3 = k by omega]
theorem fc_ok {N : Rw} {v w : Nat} (hw : w < 3) (h : okv N v w = true) : fc N (3 * v + fil N v w) = wsc N (3 * v + w) := by
  have h1 := fil_le N v w
  rw [fc_at (by omega)]
  obtain ⟨e1, e2⟩ := cb_t h
  have h2 := (cbd_st (N := N) (v := v) (w := w + 1) (k := fil N v w) (by omega) (2 - w)).2
  rw [show w + 1 + (2 - w) = 3 by omega] at h2
  rw [h2, e2, if_pos rfl]
theorem fc_le {N : Rw} (hN : InvN N) {c : Nat} (hc : c < 36) : fc N c ≤ 20 ∧ (fc N c ≠ 0 → inn N (fc N c - 1) = true) := by
  have hE := hN.1.2
  unfold fc
  rcases Nat.lt_or_ge (c % 3) (fil N (c / 3) 3) with q | q
  · obtain ⟨a, b, i, d, e⟩ := (cbd_in N (c / 3) 3).1 _ q
    refine ⟨?_, fun _ => b⟩
    rw [e]
    have := (hN.2.2.2.2.2.2.2.1 (3 * (c / 3) + i) (by omega)).2
    omega
  · rw [(cbd_in N (c / 3) 3).2 _ q]
    exact ⟨by omega, fun z => absurd rfl z⟩
section CN
variable {σ : Sg} {N : Rw}
theorem hdc_in {c : Nat} (h : inn N c = true) : hdc N c = nI (hd N c) := if_pos h
theorem hdc_out {c : Nat} (h : inn N c = false) : hdc N c = -5 := if_neg (by rw [h]; decide)
theorem s_headN (h : HC σ N) {c : Nat} (hc : c < 20) : f_GR_headOf (nI c) σ = some (hdc N c, σ) := by
  unfold f_GR_headOf
  rw [s_at _ _ _ _ hc (by decide), bd_s, h c hc]
theorem s_headW (h : HC σ N) {n : Nat} (hn : n ≤ 20) : f_GR_headOf (wI n) σ = some (hw N n, σ) := by
  unfold wI hw
  by_cases q : n = 0
  · rw [if_pos q, if_pos q]
    unfold f_GR_headOf
    rw [s_at5, bd_s]
  · rw [if_neg q, if_neg q, s_headN h (by omega)]
theorem s_isHead (h : HC σ N) {c : Nat} (hc : c < 20) : f_GR_isHead (nI c) σ = some (bI (isHd N c), σ) := by
  unfold f_GR_isHead
  rw [s_idxN _ _ _ (by omega) (by decide), bd_s, decide_eq_true hc, if_neg (by decide), inb_n hc (by omega), gd_t, nI_clamp (by omega), h c hc]
  cases q : inn N c
  · rw [hdc_out q, if_neg (fun z => (ne5a (a := c) (by omega)).mp z.symm), show isHd N c = false by simp [isHd, q]]
    rfl
  · rw [hdc_in q]
    by_cases e : hd N c = c
    · rw [e, if_pos rfl, (isHd_iff N c).mpr ⟨q, e⟩]; rfl
    · have := hd_le N c
      rw [if_neg (fun z => e ((nI_eq (by omega) (by omega)).mp z)), show isHd N c = false by simp [isHd, e]]
      rfl
theorem s_cowish {f : Nat → Nat} {v k : Nat} (hv : v < 12) (hk : k < 3) (hf : σ 86 (3 * v + k) = wI (f k)) : f_CO_wish (nI v) (nI k) σ = some (wI (f k), σ) := by
  unfold f_CO_wish
  simp (disch := omega) only [nI_leI, nI_ltI, nI_eq, nI_add, nI_mul, inb_n, nI_clamp, ne5a, ne1a]
  rw [s_at _ _ _ _ (by omega) (by decide), bd_s, show v * 3 + k = 3 * v + k by omega, hf]
theorem s_hasGroup (h : HC σ N) {f : Nat → Nat} {n x v : Nat} (hv : v < 12) (hn : n ≤ 3) (hf : ∀ k, k < 3 → σ 86 (3 * v + k) = wI (f k)) (hf1 : ∀ k, k < n → f k ≠ 0 ∧ inn N (f k - 1) = true ∧ f k ≤ 20) (hf2 : ∀ k, n ≤ k → f k = 0) (hx : hd N (x - 1) < 20) : f_CO_hasGroup (nI v) (nI (hd N (x - 1))) σ = some (bI (gdup N f n x), σ) := by
  unfold f_CO_hasGroup
  refine lpE (fun m i (_ : Unit) => f_CO_hasGroup_3 m (nI v) (nI (hd N (x - 1))) (nI i) σ) 3 (fun i _ => ∀ k, k < i → k < n → hd N (f k - 1) ≠ hd N (x - 1)) (fun r => r = some (bI (gdup N f n x), σ)) ?_ ?_ 3 0 FU () rfl (by decide) (fun k hk => absurd hk (Nat.not_lt_zero _))
  · intro m i _ hi hI
    show f_CO_hasGroup_3 (m + 1) (nI v) (nI (hd N (x - 1))) (nI i) σ = _ ∨ _
    rw [f_CO_hasGroup_3, if_neg (nI_ge hi (by decide)), s_cowish hv hi (hf i hi), bd_s]
    rcases Nat.lt_or_ge i n with q | q
    · obtain ⟨a1, a2, a3⟩ := hf1 i q
      rw [s_headW h a3, bd_s]
      unfold hw
      rw [if_neg a1, hdc_in a2]
      have h1 := hd_le N (f i - 1)
      by_cases e : hd N (f i - 1) = hd N (x - 1)
      · left
        rw [e, if_pos rfl, show gdup N f n x = true from List.any_eq_true.mpr ⟨i, List.mem_range.mpr q, decide_eq_true e⟩]
        rfl
      · right
        rw [if_neg (fun z => e ((nI_eq (by omega) (by omega)).mp z)), nI_add]
        refine ⟨(), fun k hk hk2 => ?_, rfl⟩
        rcases Nat.lt_or_ge k i with z | z
        · exact hI k z hk2
        · rw [show k = i by omega]; exact e
    · right
      rw [hf2 i q, s_headW h (Nat.zero_le _), bd_s]
      unfold hw
      rw [if_pos rfl, if_neg (fun z => (ne5a (a := hd N (x - 1)) (by omega)).mp z.symm), nI_add]
      refine ⟨(), fun k hk hk2 => ?_, rfl⟩
      exact hI k (by omega) hk2
  · intro m _ hI
    show f_CO_hasGroup_3 (m + 1) (nI v) (nI (hd N (x - 1))) (nI 3) σ = _
    rw [f_CO_hasGroup_3, if_pos (Int32.le_refl _), show gdup N f n x = false by
      simp only [gdup, List.any_eq_false, List.mem_range, decide_eq_true_eq]
      exact fun k hk => hI k (by omega) hk]
    rfl
/-- the class's tables of counted ballots, after t places -/
def CT1 (N : Rw) (t : Nat) (x : Sg) : Prop := ∀ g, g < 20 → x 87 g = nI (sm (pw N g) t) ∧ x 88 g = nI (sm (fw N g) t)
theorem s_fillBallot (h : QS σ N) (hc : HC σ N) {v : Nat} (hv : v < 12) (h0 : ∀ k, k < 3 → σ 86 (3 * v + k) = -5) (h1 : CT1 N (3 * v) σ) :
    ∃ x, f_CO_fillBallot (nI v) σ = some (0, x) ∧ Fr [86, 87, 88] σ x ∧ (∀ k, k < 3 → x 86 (3 * v + k) = wI (fc N (3 * v + k))) ∧ (∀ j, j < 3 * v ∨ 3 * v + 3 ≤ j → x 86 j = σ 86 j) ∧ CT1 N (3 * (v + 1)) x := by
  unfold f_CO_fillBallot
  refine Exists.elim (lpI (fun n w (x : Sg) => f_CO_fillBallot_6 n (nI v) (nI (fil N v w)) (nI w) x) 3
    (fun w x => Fr [86, 87, 88] σ x ∧ (∀ k, k < 3 → x 86 (3 * v + k) = wI (cbd N v w k)) ∧ (∀ j, j < 3 * v ∨ 3 * v + 3 ≤ j → x 86 j = σ 86 j) ∧ CT1 N (3 * v + fil N v w) x) ?_ 0 FU σ (Nat.zero_le _) (by decide) ⟨Fr.rf _ _, fun k hk => h0 k hk, fun _ _ => rfl, h1⟩) ?_
  · intro n w x hw3 hJ
    obtain ⟨hF, hR, hO, hT⟩ := hJ
    have hq := h.fr hF (by decide)
    have hcx := hc.fr hF (by decide)
    have hfl := fil_le N v w
    have hwe := (h.2.1.2.2.2.2.2.2.2.1 (3 * v + w) (by omega)).2
    have hE := h.2.1.1.2
    show ∃ y, _ ∧ f_CO_fillBallot_6 (n + 1) (nI v) (nI (fil N v w)) (nI w) x = _
    rw [f_CO_fillBallot_6, if_neg (nI_ge hw3 (by decide)), r_wish hq hv hw3, bd_s, s_headW hcx (by omega), bd_s, nI_add]
    have skip : okv N v w = false → ∃ y, (Fr [86, 87, 88] σ y ∧ (∀ k, k < 3 → y 86 (3 * v + k) = wI (cbd N v (w + 1) k)) ∧ (∀ j, j < 3 * v ∨ 3 * v + 3 ≤ j → y 86 j = σ 86 j) ∧ CT1 N (3 * v + fil N v (w + 1)) y) ∧ f_CO_fillBallot_6 n (nI v) (nI (fil N v w)) (nI (w + 1)) x = f_CO_fillBallot_6 n (nI v) (nI (fil N v (w + 1))) (nI (w + 1)) y := by
      intro q
      obtain ⟨e1, e2⟩ := cb_f q
      refine ⟨x, ⟨hF, fun k hk => by rw [e2]; exact hR k hk, hO, by rw [e1]; exact hT⟩, by rw [e1]⟩
    by_cases z : wsc N (3 * v + w) = 0 ∨ inn N (wsc N (3 * v + w) - 1) = false
    · have e5 : hw N (wsc N (3 * v + w)) = -5 := by
        unfold hw
        by_cases z2 : wsc N (3 * v + w) = 0
        · rw [if_pos z2]
        · rw [if_neg z2]
          exact hdc_out (by rcases z with z | z; exact absurd z z2; exact z)
      rw [if_pos e5]
      refine skip ?_
      unfold okv okw
      rcases z with z | z
      · rw [z]; rfl
      · rw [z, Bool.and_false, Bool.false_and]
    · have z1 : wsc N (3 * v + w) ≠ 0 := fun q => z (Or.inl q)
      have z2 : inn N (wsc N (3 * v + w) - 1) = true := by
        cases q : inn N (wsc N (3 * v + w) - 1)
        · exact absurd (Or.inr q) z
        · rfl
      have eh : hw N (wsc N (3 * v + w)) = nI (hd N (wsc N (3 * v + w) - 1)) := by
        unfold hw
        rw [if_neg z1, hdc_in z2]
      have hd20 : hd N (wsc N (3 * v + w) - 1) < 20 := by
        have := hd_le N (wsc N (3 * v + w) - 1)
        omega
      obtain ⟨b1, b2⟩ := cbd_in N v w
      rw [eh, if_neg (fun q => (ne5a (by omega)).mp q), s_hasGroup (f := cbd N v w) (n := fil N v w) hcx hv (by omega) hR (fun k hk => by
        obtain ⟨a1, a2, i, a3, a4⟩ := b1 k hk
        refine ⟨a1, a2, ?_⟩
        rw [a4]
        have := (h.2.1.2.2.2.2.2.2.2.1 (3 * v + i) (by omega)).2
        omega) b2 hd20, bd_s]
      cases q : gdup N (cbd N v w) (fil N v w) (wsc N (3 * v + w))
      · have hok : okv N v w = true := by
          unfold okv okw
          rw [q, z2, decide_eq_false z1]
          rfl
        obtain ⟨e1, e2⟩ := cb_t hok
        have hfc := fc_ok hw3 hok
        rw [if_pos (by decide), nI_mul, nI_add, s_put _ _ _ _ _ (by omega) (by decide), bd_s]
        generalize hg : hd N (wsc N (3 * v + w) - 1) = g at hd20 ⊢
        have hp : pw N g (3 * v + fil N v w) = 3 - fil N v w := by
          unfold pw
          rw [hfc, if_pos ⟨z1, hg⟩, show (3 * v + fil N v w) % 3 = fil N v w by omega]
        have hpo : ∀ g', g' ≠ g → pw N g' (3 * v + fil N v w) = 0 ∧ fw N g' (3 * v + fil N v w) = 0 := by
          intro g' hg'
          unfold pw fw
          rw [hfc, if_neg (fun q => hg' (q.2.symm.trans hg)), if_neg (fun q => hg' (q.1.2.symm.trans hg))]
          exact ⟨rfl, rfl⟩
        have hfw : fw N g (3 * v + fil N v w) = if fil N v w = 0 then 1 else 0 := by
          unfold fw
          rw [hfc, show (3 * v + fil N v w) % 3 = fil N v w by omega]
          by_cases z3 : fil N v w = 0
          · rw [if_pos ⟨⟨z1, hg⟩, z3⟩, if_pos z3]
          · rw [if_neg (fun q => z3 q.2), if_neg z3]
        rw [show f_CO_pointsOf (nI g) (up x 86 (v * 3 + fil N v w) (wI (wsc N (3 * v + w)))) = some (nI (sm (pw N g) (3 * v + fil N v w)), up x 86 (v * 3 + fil N v w) (wI (wsc N (3 * v + w)))) by
          unfold f_CO_pointsOf
          rw [s_at _ _ _ _ hd20 (by decide), bd_s, up_n _ _ _ (by decide), (hT g hd20).1], bd_s, nI_add, pk_sub (by omega), s_put _ _ _ _ _ hd20 (by decide), bd_s]
        have r86 : ∀ (y : Sg) (j : Nat), y 86 = up x 86 (v * 3 + fil N v w) (wI (wsc N (3 * v + w))) 86 → y 86 j = if j = 3 * v + fil N v w then wI (wsc N (3 * v + w)) else x 86 j := by
          intro y j hy
          rw [hy, up_s, show v * 3 + fil N v w = 3 * v + fil N v w by omega]
          rfl
        have hrow : ∀ y : Sg, y 86 = up x 86 (v * 3 + fil N v w) (wI (wsc N (3 * v + w))) 86 → (∀ k, k < 3 → y 86 (3 * v + k) = wI (cbd N v (w + 1) k)) ∧ ∀ j, j < 3 * v ∨ 3 * v + 3 ≤ j → y 86 j = σ 86 j := by
          intro y hy
          refine ⟨fun k hk => ?_, fun j hj => ?_⟩
          · rw [r86 y _ hy, e2]
            by_cases z3 : k = fil N v w
            · rw [if_pos (by omega), if_pos z3]
            · rw [if_neg (by omega), if_neg z3]; exact hR k hk
          · rw [r86 y _ hy, if_neg (by omega)]; exact hO j hj
        by_cases z3 : fil N v w = 0
        · rw [z3, if_pos rfl, ← z3]
          rw [show f_CO_firstsOf (nI g) (up (up x 86 (v * 3 + fil N v w) (wI (wsc N (3 * v + w)))) 87 g (nI (sm (pw N g) (3 * v + fil N v w) + 3 - fil N v w))) = some (nI (sm (fw N g) (3 * v + fil N v w)), up (up x 86 (v * 3 + fil N v w) (wI (wsc N (3 * v + w)))) 87 g (nI (sm (pw N g) (3 * v + fil N v w) + 3 - fil N v w))) by
            unfold f_CO_firstsOf
            rw [s_at _ _ _ _ hd20 (by decide), bd_s, up_n _ _ _ (by decide), up_n _ _ _ (by decide), (hT g hd20).2], bd_s, nI_add, s_put _ _ _ _ _ hd20 (by decide), bd_s, nI_add, ← e1]
          generalize hy : up (up (up x 86 (v * 3 + fil N v w) (wI (wsc N (3 * v + w)))) 87 g (nI (sm (pw N g) (3 * v + fil N v w) + 3 - fil N v w))) 88 g (nI (sm (fw N g) (3 * v + fil N v w) + 1)) = y
          obtain ⟨k1, k2⟩ := hrow y (by rw [← hy, up_n _ _ _ (by decide), up_n _ _ _ (by decide)])
          refine ⟨y, ⟨by rw [← hy]; exact ((hF.up _ _ (by decide)).up _ _ (by decide)).up _ _ (by decide), k1, k2, fun g' hg' => ?_⟩, rfl⟩
          rw [e1, show 3 * v + (fil N v w + 1) = (3 * v + fil N v w) + 1 by omega, sm, sm, ← hy]
          by_cases e : g' = g
          · rw [e, hp, hfw, if_pos z3, up_n _ _ _ (by decide), up_s, upd_s, up_s, upd_s]
            exact ⟨by rw [show sm (pw N g) (3 * v + fil N v w) + 3 - fil N v w = sm (pw N g) (3 * v + fil N v w) + (3 - fil N v w) by omega], rfl⟩
          · rw [(hpo g' e).1, (hpo g' e).2, up_n _ _ _ (by decide), up_s, upd_n _ _ e, up_s, upd_n _ _ e, up_n _ _ _ (by decide), up_n _ _ _ (by decide), up_n _ _ _ (by decide)]
            exact hT g' hg'
        · rw [if_neg (by rw [nI_eq (by omega) (by decide)]; exact z3), nI_add, ← e1]
          generalize hy : up (up x 86 (v * 3 + fil N v w) (wI (wsc N (3 * v + w)))) 87 g (nI (sm (pw N g) (3 * v + fil N v w) + 3 - fil N v w)) = y
          obtain ⟨k1, k2⟩ := hrow y (by rw [← hy, up_n _ _ _ (by decide)])
          refine ⟨y, ⟨by rw [← hy]; exact (hF.up _ _ (by decide)).up _ _ (by decide), k1, k2, fun g' hg' => ?_⟩, rfl⟩
          rw [e1, show 3 * v + (fil N v w + 1) = (3 * v + fil N v w) + 1 by omega, sm, sm, ← hy]
          by_cases e : g' = g
          · rw [e, hp, hfw, if_neg z3, up_s, upd_s, up_n _ _ _ (by decide), up_n _ _ _ (by decide)]
            exact ⟨by rw [show sm (pw N g) (3 * v + fil N v w) + 3 - fil N v w = sm (pw N g) (3 * v + fil N v w) + (3 - fil N v w) by omega], (hT g hd20).2⟩
          · rw [(hpo g' e).1, (hpo g' e).2, up_s, upd_n _ _ e, up_n _ _ _ (by decide), up_n _ _ _ (by decide), up_n _ _ _ (by decide)]
            exact hT g' hg'
      · rw [if_neg (by decide)]
        refine skip ?_
        unfold okv okw
        rw [q]
        simp
  · rintro m ⟨x, ⟨hF, hR, hO, hT⟩, heq⟩
    refine ⟨x, heq.trans ?_, hF, fun k hk => by rw [hR k hk, fc_at hk], hO, fun g hg => ?_⟩
    · show f_CO_fillBallot_6 (m + 1) (nI v) (nI (fil N v 3)) (nI 3) x = _
      rw [f_CO_fillBallot_6, if_pos (Int32.le_refl _)]
    · have hfl := fil_le N v 3
      have z0 : ∀ i, 3 * v + fil N v 3 ≤ i → i < 3 * (v + 1) → fc N i = 0 := by
        intro i h1 h2
        rw [show i = 3 * v + (i - 3 * v) by omega, fc_at (by omega)]
        exact (cbd_in N v 3).2 _ (by omega)
      rw [sm_out (p := pw N g) (m := 3 * v + fil N v 3) (by omega) (fun i h1 h2 => by unfold pw; rw [if_neg (fun q => q.1 (z0 i h1 h2))]), sm_out (p := fw N g) (m := 3 * v + fil N v 3) (by omega) (fun i h1 h2 => by unfold fw; rw [if_neg (fun q => q.1.1 (z0 i h1 h2))])]
      exact hT g hg
end CN
