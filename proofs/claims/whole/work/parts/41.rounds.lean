/-! rounds: o tells for each group 0 (left) or 1 plus the round in which it was left out -/
noncomputable def chm (N : Rw) (o : Nat → Nat) (f : Nat → Nat) : Nat → Nat
  | 0 => 0
  | n + 1 => if chm N o f n ≠ 0 then chm N o f n else if (f n ≠ 0 ∧ inn N (f n - 1) = true) ∧ o (hd N (f n - 1)) = 0 then hd N (f n - 1) + 1 else 0
noncomputable def ch (N : Rw) (o : Nat → Nat) (v : Nat) : Nat := chm N o (fun w => wsc N (3 * v + w)) 3
noncomputable def lft (N : Rw) (o : Nat → Nat) (k : Nat) : Bool := isHd N k && decide (o k = 0)
noncomputable def gt (N : Rw) (o : Nat → Nat) (g : Nat) : Nat := cnt (fun v => decide (ch N o v = g + 1)) 12
noncomputable def lo (N : Rw) (o : Nat → Nat) : Nat := cnt (fun v => decide (ch N o v = 0)) 12
noncomputable def wkr (N : Rw) (o : Nat → Nat) (k l : Nat) : Bool := decide (gt N o k < gt N o l) || (decide (gt N o k = gt N o l) && decide (sr N l ≤ sr N k))
noncomputable def wk (N : Rw) (o : Nat → Nat) : Nat → Nat
  | 0 => 0
  | k + 1 => if lft N o k = true ∧ (wk N o k = 0 ∨ wkr N o k (wk N o k - 1) = true) then k + 1 else wk N o k
noncomputable def os (N : Rw) : Nat → Nat → Nat
  | 0 => fun _ => 0
  | r + 1 => fun k => if k + 1 = wk N (os N r) 20 then r + 1 else os N r k
noncomputable def ho (N : Rw) (r : Nat) : Nat := wk N (os N r) 20 - 1
noncomputable def vo (N : Rw) (r : Nat) : Nat := gt N (os N r) (ho N r)
theorem chm_s (N : Rw) (o f : Nat → Nat) (n : Nat) : chm N o f (n + 1) = if chm N o f n ≠ 0 then chm N o f n else if (f n ≠ 0 ∧ inn N (f n - 1) = true) ∧ o (hd N (f n - 1)) = 0 then hd N (f n - 1) + 1 else 0 := rfl
theorem chm_stay {N : Rw} {o f : Nat → Nat} {n : Nat} (h : chm N o f n ≠ 0) (j : Nat) : chm N o f (n + j) = chm N o f n := by
  induction j with
  | zero => rfl
  | succ j ih => rw [← Nat.add_assoc, chm_s, if_pos (by rw [ih]; exact h), ih]
theorem chm_cong {N : Rw} {o f g : Nat → Nat} {n : Nat} (h : ∀ k, k < n → f k = g k) : chm N o f n = chm N o g n := by
  induction n with
  | zero => rfl
  | succ n ih => rw [chm_s, chm_s, ih (fun k hk => h k (by omega)), h n (by omega)]
theorem chm_none {N : Rw} {o f : Nat → Nat} {n : Nat} (h : chm N o f n = 0) : ∀ k, k < n → f k ≠ 0 → inn N (f k - 1) = true → o (hd N (f k - 1)) ≠ 0 := by
  induction n with
  | zero => intro k hk; exact absurd hk (Nat.not_lt_zero _)
  | succ n ih =>
    rw [chm_s] at h
    by_cases q : chm N o f n ≠ 0
    · rw [if_pos q] at h; exact absurd h q
    · rw [if_neg q] at h
      intro k hk h1 h2 h3
      rcases Nat.lt_or_ge k n with z | z
      · exact ih (by simpa using q) k z h1 h2 h3
      · rw [show k = n by omega] at h1 h2 h3
        rw [if_pos ⟨⟨h1, h2⟩, h3⟩] at h
        omega
/-- the counted ballot tells the same choice as the ballot as it was filled in -/
theorem ch_counted {N : Rw} (o : Nat → Nat) (v : Nat) : ∀ w, chm N o (fun w => wsc N (3 * v + w)) w = chm N o (cbd N v w) (fil N v w) := by
  intro w
  induction w with
  | zero => rfl
  | succ w ih =>
    cases q : okv N v w
    · obtain ⟨e1, e2⟩ := cb_f q
      rw [e1, chm_cong (g := cbd N v w) (fun k _ => e2 k), ← ih, chm_s]
      by_cases z : chm N o (fun w => wsc N (3 * v + w)) w ≠ 0
      · rw [if_pos z]
      · rw [if_neg z, if_neg]
        · exact (by simpa using z : chm N o (fun w => wsc N (3 * v + w)) w = 0).symm
        · intro h
          have z2 : chm N o (cbd N v w) (fil N v w) = 0 := by rw [← ih]; simpa using z
          have h3 : ¬ ∀ k, k < fil N v w → hd N (cbd N v w k - 1) ≠ hd N (wsc N (3 * v + w) - 1) := by
            intro h4
            have : okv N v w = true := (okw_iff _ _ _ _).mpr ⟨h.1, h4⟩
            rw [q] at this; cases this
          apply h3
          intro k hk e
          obtain ⟨a1, a2, -⟩ := (cbd_in N v w).1 k hk
          have := chm_none z2 k hk a1 a2
          rw [e] at this
          exact this h.2
    · obtain ⟨e1, e2⟩ := cb_t q
      have h1 := ((okw_iff _ _ _ _).mp q).1
      rw [e1, chm_s, chm_s, ih, chm_cong (f := cbd N v (w + 1)) (g := cbd N v w) (fun k hk => by rw [e2, if_neg (by omega)]), e2, if_pos rfl]
theorem ch_fc {N : Rw} (o : Nat → Nat) (v : Nat) : chm N o (fun k => fc N (3 * v + k)) 3 = ch N o v := by
  unfold ch
  rw [ch_counted o v 3, chm_cong (f := fun k => fc N (3 * v + k)) (g := cbd N v 3) (fun k hk => fc_at hk)]
  have hfl := fil_le N v 3
  have key : ∀ j, fil N v 3 + j ≤ 3 → chm N o (cbd N v 3) (fil N v 3 + j) = chm N o (cbd N v 3) (fil N v 3) := by
    intro j
    induction j with
    | zero => intro _; rfl
    | succ j ih =>
      intro hj
      rw [← Nat.add_assoc, chm_s, ih (by omega)]
      by_cases z : chm N o (cbd N v 3) (fil N v 3) ≠ 0
      · rw [if_pos z]
      · rw [if_neg z, if_neg (fun h => h.1.1 ((cbd_in N v 3).2 _ (by omega)))]
        exact (by simpa using z : chm N o (cbd N v 3) (fil N v 3) = 0).symm
  have := key (3 - fil N v 3) (by omega)
  rwa [show fil N v 3 + (3 - fil N v 3) = 3 by omega] at this
theorem chm_hd {N : Rw} (hN : InvN N) {o f : Nat → Nat} : ∀ n, chm N o f n ≠ 0 → isHd N (chm N o f n - 1) = true ∧ chm N o f n ≤ 20 := by
  intro n
  induction n with
  | zero => intro h; exact absurd rfl h
  | succ n ih =>
    rw [chm_s]
    by_cases q : chm N o f n ≠ 0
    · rw [if_pos q]; exact ih
    · rw [if_neg q]
      by_cases z : (f n ≠ 0 ∧ inn N (f n - 1) = true) ∧ o (hd N (f n - 1)) = 0
      · rw [if_pos z]
        intro _
        have h1 := hd_isHd hN z.1.2
        have h2 := (hN.in_lt z.1.2).1
        have h3 := hd_le N (f n - 1)
        exact ⟨h1, by omega⟩
      · rw [if_neg z]
        intro h; exact absurd rfl h
theorem ch_le {N : Rw} (hN : InvN N) (o : Nat → Nat) (v : Nat) : ch N o v ≤ 20 := by
  rcases Nat.eq_zero_or_pos (ch N o v) with q | q
  · omega
  · exact (chm_hd hN 3 (by unfold ch at q; omega)).2
theorem gt_le (N : Rw) (o : Nat → Nat) (g : Nat) : gt N o g ≤ 12 := cnt_le _ _
theorem lo_le (N : Rw) (o : Nat → Nat) : lo N o ≤ 12 := cnt_le _ _
theorem wk_ok (N : Rw) (o : Nat → Nat) : ∀ k, wk N o k ≤ k ∧ (wk N o k ≠ 0 → lft N o (wk N o k - 1) = true) ∧ (wk N o k = 0 → ∀ j, j < k → lft N o j = false) := by
  intro k
  induction k with
  | zero => exact ⟨Nat.le_refl _, fun h => absurd rfl h, fun _ j hj => absurd hj (Nat.not_lt_zero _)⟩
  | succ k ih =>
    rw [wk]
    by_cases q : lft N o k = true ∧ (wk N o k = 0 ∨ wkr N o k (wk N o k - 1) = true)
    · rw [if_pos q]
      exact ⟨Nat.le_refl _, fun _ => by rw [Nat.add_sub_cancel]; exact q.1, fun h => by omega⟩
    · rw [if_neg q]
      refine ⟨by omega, ih.2.1, fun h j hj => ?_⟩
      rcases Nat.lt_or_ge j k with z | z
      · exact ih.2.2 h j z
      · rw [show j = k by omega]
        cases w : lft N o k
        · rfl
        · exact absurd ⟨w, Or.inl h⟩ q
theorem os_s (N : Rw) (r k : Nat) : os N (r + 1) k = if k + 1 = wk N (os N r) 20 then r + 1 else os N r k := rfl
theorem lft_cnt (N : Rw) : ∀ r, r ≤ ng N → cnt (lft N (os N r)) 20 = ng N - r ∧ ∀ k, os N r k ≤ r := by
  intro r
  induction r with
  | zero =>
    intro _
    refine ⟨?_, fun k => Nat.le_refl _⟩
    unfold ng
    rw [Nat.sub_zero]
    refine cnt_cong (fun i hi => ?_)
    unfold lft os
    simp
  | succ r ih =>
    intro hr
    obtain ⟨i1, i2⟩ := ih (by omega)
    have hw := wk_ok N (os N r) 20
    have hne : wk N (os N r) 20 ≠ 0 := by
      intro h
      have : cnt (lft N (os N r)) 20 = 0 := (cnt_cong (q := fun _ => false) (fun i hi => hw.2.2 h i hi)).trans (by decide)
      omega
    have hl := hw.2.1 hne
    refine ⟨?_, fun k => ?_⟩
    · have u := cnt_upd (p := lft N (os N r)) (q := lft N (os N (r + 1))) (n := 20) (j := wk N (os N r) 20 - 1) (by omega) (fun i hi => by
        unfold lft
        rw [os_s, if_neg (by omega)])
      have hz : lft N (os N (r + 1)) (wk N (os N r) 20 - 1) = false := by
        unfold lft
        rw [os_s, if_pos (by omega), decide_eq_false (by omega), Bool.and_false]
      rw [hl, hz, b2n_t, b2n_f] at u
      omega
    · rw [os_s]
      by_cases q : k + 1 = wk N (os N r) 20
      · rw [if_pos q]; exact Nat.le_refl _
      · rw [if_neg q]
        have := i2 k
        omega
theorem ng_le (N : Rw) : ng N ≤ 20 := cnt_le _ _
theorem wk_pos {N : Rw} {r : Nat} (hr : r < ng N) : wk N (os N r) 20 ≠ 0 := by
  intro h
  have h1 := (lft_cnt N r (by omega)).1
  have : cnt (lft N (os N r)) 20 = 0 := (cnt_cong (q := fun _ => false) (fun i hi => (wk_ok N (os N r) 20).2.2 h i hi)).trans (by decide)
  omega
section RO
variable {σ : Sg} {N : Rw}
def LF (N : Rw) (o : Nat → Nat) (x : Sg) : Prop := ∀ k, k < 20 → x 94 k = bI (lft N o k)
theorem s_firstLeft (h : QS σ N) (hc : HC σ N) {o : Nat → Nat} (hl : LF N o σ) {v : Nat} (hv : v < 12) : f_RO_firstLeft (nI v) σ = some (wI (ch N o v), σ) := by
  unfold f_RO_firstLeft
  have hE := h.2.1.1.2
  refine lpE (fun n w (_ : Unit) => f_RO_firstLeft_3 n (nI v) (nI w) σ) 3 (fun w _ => chm N o (fun w => wsc N (3 * v + w)) w = 0) (fun r => r = some (wI (ch N o v), σ)) ?_ ?_ 3 0 FU () rfl (by decide) rfl
  · intro n w _ hw3 hI
    have hx := (h.2.1.2.2.2.2.2.2.2.1 (3 * v + w) (by omega)).2
    have hs := chm_s N o (fun w => wsc N (3 * v + w)) w
    rw [if_neg (by rw [hI]; omega)] at hs
    show f_RO_firstLeft_3 (n + 1) (nI v) (nI w) σ = _ ∨ _
    rw [f_RO_firstLeft_3, if_neg (nI_ge hw3 (by decide)), r_wish h hv hw3, bd_s, s_headW hc (by omega), bd_s, nI_add]
    by_cases z : wsc N (3 * v + w) ≠ 0 ∧ inn N (wsc N (3 * v + w) - 1) = true
    · have eh : hw N (wsc N (3 * v + w)) = nI (hd N (wsc N (3 * v + w) - 1)) := by
        unfold hw
        rw [if_neg z.1, hdc_in z.2]
      have hl2 := hd_le N (wsc N (3 * v + w) - 1)
      rw [eh, s_idxN _ _ _ (by omega) (by decide), bd_s, decide_eq_true (by omega), if_neg (by decide), inb_n (by omega) (by omega), gd_t, nI_clamp (by omega), hl _ (by omega)]
      have hih := hd_isHd h.2.1 z.2
      by_cases z2 : o (hd N (wsc N (3 * v + w) - 1)) = 0
      · left
        rw [show lft N o (hd N (wsc N (3 * v + w) - 1)) = true by unfold lft; rw [hih, decide_eq_true z2]; rfl, if_neg (by decide)]
        rw [if_pos ⟨z, z2⟩] at hs
        have := chm_stay (N := N) (o := o) (f := fun w => wsc N (3 * v + w)) (n := w + 1) (by rw [hs]; omega) (2 - w)
        rw [show w + 1 + (2 - w) = 3 by omega, hs] at this
        unfold ch
        rw [this, wI_s (by omega), Nat.add_sub_cancel]
      · right
        rw [show lft N o (hd N (wsc N (3 * v + w) - 1)) = false by unfold lft; rw [decide_eq_false z2, Bool.and_false], if_pos (by decide)]
        exact ⟨(), by rw [hs, if_neg (fun q => z2 q.2)], rfl⟩
    · right
      have eh : hw N (wsc N (3 * v + w)) = -5 := by
        unfold hw
        by_cases q : wsc N (3 * v + w) = 0
        · rw [if_pos q]
        · rw [if_neg q]
          refine hdc_out ?_
          cases q2 : inn N (wsc N (3 * v + w) - 1)
          · rfl
          · exact absurd ⟨q, q2⟩ z
      rw [eh, s_idx _ _ _ (by decide), bd_s, show bI (decide (plc 20 (-5) < 20)) = nI 0 by decide, if_pos rfl]
      exact ⟨(), by rw [hs, if_neg (fun q => z q.1)], rfl⟩
  · intro n _ hI
    show f_RO_firstLeft_3 (n + 1) (nI v) (nI 3) σ = _
    rw [f_RO_firstLeft_3, if_pos (Int32.le_refl _)]
    unfold ch
    rw [hI]
    rfl
theorem s_choose (h : QS σ N) (hc : HC σ N) {o : Nat → Nat} (hl : LF N o σ) : ∃ x, f_RO_choose σ = some (0, x) ∧ Fr [95] σ x ∧ ∀ v, v < 12 → x 95 v = wI (ch N o v) := by
  unfold f_RO_choose
  refine Exists.elim (lpI (fun n v (x : Sg) => f_RO_choose_2 n (nI v) x) 12 (fun v x => Fr [95] σ x ∧ ∀ u, u < v → x 95 u = wI (ch N o u)) ?_ 0 FU σ (Nat.zero_le _) (by decide) ⟨Fr.rf _ _, fun u hu => absurd hu (Nat.not_lt_zero _)⟩) ?_
  · intro n v x hv hJ
    obtain ⟨hF, h1⟩ := hJ
    show ∃ y, _ ∧ f_RO_choose_2 (n + 1) (nI v) x = _
    rw [f_RO_choose_2, if_neg (nI_ge hv (by decide)), s_firstLeft (h.fr hF (by decide)) (hc.fr hF (by decide)) (o := o) (fun k hk => by rw [hF 94 (by decide)]; exact hl k hk) hv, bd_s, inb_n hv (by omega), gd_t, nI_clamp (by omega), lt', nI_add]
    refine ⟨_, ⟨hF.up _ _ (by decide), fun u hu => ?_⟩, rfl⟩
    rw [up_s]
    by_cases z : u = v
    · rw [z, upd_s]
    · rw [upd_n _ _ z]; exact h1 u (by omega)
  · rintro m ⟨x, ⟨hF, h1⟩, heq⟩
    refine ⟨x, heq.trans ?_, hF, h1⟩
    show f_RO_choose_2 (m + 1) (nI 12) x = _
    rw [f_RO_choose_2, if_pos (Int32.le_refl _)]
theorem wI_iff {x g : Nat} (hx : x ≤ 20) (hg : g < 20) : (wI x = nI g) ↔ x = g + 1 := by
  by_cases q : x = 0
  · rw [q]
    exact ⟨fun z => ((ne5a (a := g) (by omega)).mp z.symm).elim, fun z => by omega⟩
  · rw [wI_s q, nI_eq (by omega) (by omega)]
    omega
theorem wI_5 {x : Nat} (hx : x ≤ 2000) : (wI x = -5) ↔ x = 0 := by
  by_cases q : x = 0
  · rw [q]; exact ⟨fun _ => rfl, fun _ => rfl⟩
  · rw [wI_s q]
    exact ⟨fun z => ((ne5a (by omega)).mp z).elim, fun z => absurd z q⟩
theorem s_ballotsFor {x : Int32} {p : Nat → Bool} (hx : ∀ v, v < 12 → (σ 95 v = x ↔ p v = true)) : f_RO_ballotsFor x σ = some (nI (cnt p 12), σ) := by
  unfold f_RO_ballotsFor
  refine lpS (fun n i y => f_RO_ballotsFor_4 n x (nI y) (nI i) σ) 12 (fun i => b2n (p i)) (fun y => some (nI y, σ)) ?_ ?_ FU (by decide)
  · intro n i y hi hy
    show f_RO_ballotsFor_4 (n + 1) x (nI y) (nI i) σ = _
    rw [f_RO_ballotsFor_4, if_neg (nI_ge hi (by decide)), inb_n hi (by omega), gd_t, nI_clamp (by omega), if_b (hx i hi)]
    cases q : p i
    · rw [if_neg (by decide), nI_add]; rfl
    · rw [if_pos rfl, nI_add, nI_add]; rfl
  · intro n
    show f_RO_ballotsFor_4 (n + 1) x _ (nI 12) σ = _
    rw [f_RO_ballotsFor_4, if_pos (Int32.le_refl _)]
theorem s_ballotsG (hN : InvN N) {o : Nat → Nat} (h95 : ∀ v, v < 12 → σ 95 v = wI (ch N o v)) {g : Nat} (hg : g < 20) : f_RO_ballotsFor (nI g) σ = some (nI (gt N o g), σ) :=
  s_ballotsFor (p := fun v => decide (ch N o v = g + 1)) (fun v hv => by rw [h95 v hv, wI_iff (ch_le hN o v) hg, decide_eq_true_eq])
theorem s_ballotsN (hN : InvN N) {o : Nat → Nat} (h95 : ∀ v, v < 12 → σ 95 v = wI (ch N o v)) : f_RO_ballotsFor (-5) σ = some (nI (lo N o), σ) :=
  s_ballotsFor (p := fun v => decide (ch N o v = 0)) (fun v hv => by rw [h95 v hv, wI_5 (by have := ch_le hN o v; omega), decide_eq_true_eq])
theorem s_sumOf {g s : Nat} (hg : g < 20) (hs : σ 92 g = nI s) : f_RA_sumOf (nI g) σ = some (nI s, σ) := by
  unfold f_RA_sumOf
  rw [s_at _ _ _ _ hg (by decide), bd_s, hs]
theorem s_isWeaker (hN : InvN N) {o : Nat → Nat} (h95 : ∀ v, v < 12 → σ 95 v = wI (ch N o v)) {k l : Nat} (hk : k < 20) (hlk : l < k) (h1 : σ 92 k = nI (sr N k)) (h2 : σ 92 l = nI (sr N l)) : f_RO_isWeaker (nI k) (nI l) σ = some (bI (wkr N o k l), σ) := by
  have g1 := gt_le N o k
  have g2 := gt_le N o l
  have s1 := sr_le N k
  have s2 := sr_le N l
  unfold f_RO_isWeaker wkr
  rw [s_ballotsG hN h95 hk, bd_s, s_ballotsG hN h95 (by omega), bd_s]
  by_cases e : gt N o k = gt N o l
  · rw [if_pos (by rw [e]), s_sumOf hk h1, bd_s, s_sumOf (by omega) h2, bd_s, decide_eq_true e, decide_eq_false (by omega)]
    by_cases e2 : sr N k = sr N l
    · rw [if_pos (by rw [e2]), if_neg (nI_ge hlk (by omega)), decide_eq_true (by omega)]
      rfl
    · rw [if_neg (by rw [nI_eq (by omega) (by omega)]; exact e2), s_sumOf hk h1, bd_s, s_sumOf (by omega) h2, bd_s]
      by_cases e3 : sr N k ≤ sr N l
      · rw [if_pos ((nI_leI (by omega) (by omega)).mpr e3), decide_eq_false (by omega)]; rfl
      · rw [if_neg (by rw [nI_leI (by omega) (by omega)]; exact e3), decide_eq_true (by omega)]; rfl
  · rw [if_neg (by rw [nI_eq (by omega) (by omega)]; exact e), s_ballotsG hN h95 hk, bd_s, s_ballotsG hN h95 (by omega), bd_s, decide_eq_false e, Bool.false_and, Bool.or_false]
    by_cases e2 : gt N o l ≤ gt N o k
    · rw [if_pos ((nI_leI (by omega) (by omega)).mpr e2), decide_eq_false (by omega)]; rfl
    · rw [if_neg (by rw [nI_leI (by omega) (by omega)]; exact e2), decide_eq_true (by omega)]; rfl
theorem lft_hd {o : Nat → Nat} {k : Nat} (h : lft N o k = true) : isHd N k = true ∧ o k = 0 := by simpa [lft] using h
theorem s_weakest (hN : InvN N) {o : Nat → Nat} (hl : LF N o σ) (h95 : ∀ v, v < 12 → σ 95 v = wI (ch N o v)) (h92 : ∀ g, g < 20 → σ 92 g = nI (if isHd N g = true then sr N g else 0)) : f_RO_weakest σ = some (wI (wk N o 20), σ) := by
  unfold f_RO_weakest
  refine lpE (fun n k (l : Nat) => f_RO_weakest_5 n (wI l) (nI k) σ) 20 (fun k l => l = wk N o k) (fun r => r = some (wI (wk N o 20), σ)) ?_ ?_ 20 0 FU 0 rfl (by decide) rfl
  · intro n k l hk hI
    right
    obtain ⟨w1, w2, -⟩ := wk_ok N o k
    show ∃ y, _ ∧ f_RO_weakest_5 (n + 1) (wI l) (nI k) σ = _
    rw [f_RO_weakest_5, if_neg (nI_ge hk (by decide)), inb_n hk (by omega), gd_t, nI_clamp (by omega), hl k hk, nI_add]
    cases q : lft N o k
    · rw [if_pos (by decide)]
      exact ⟨l, by rw [wk, if_neg (fun z => by rw [q] at z; cases z.1)]; exact hI, rfl⟩
    · rw [if_neg (by decide)]
      by_cases z : wk N o k = 0
      · rw [hI, z, if_pos (show wI 0 = -5 from rfl)]
        exact ⟨k + 1, by rw [wk, if_pos ⟨q, Or.inl z⟩], by rw [wI_s (by omega), Nat.add_sub_cancel]⟩
      · have hq1 := (lft_hd q).1
        have hq2 := (lft_hd (w2 z)).1
        rw [hI, if_neg (fun w => z ((wI_5 (by omega)).mp w)), wI_s z, s_isWeaker hN h95 hk (by omega) (by rw [h92 k hk, if_pos hq1]) (by rw [h92 _ (by omega), if_pos hq2]), bd_s]
        cases q3 : wkr N o k (wk N o k - 1)
        · rw [if_pos (by decide)]
          exact ⟨l, by rw [wk, if_neg (fun w => by rcases w.2 with w | w; exact z w; rw [q3] at w; cases w)]; exact hI, by rw [hI, wI_s z]⟩
        · rw [if_neg (by decide)]
          exact ⟨k + 1, by rw [wk, if_pos ⟨q, Or.inr q3⟩], by rw [wI_s (by omega), Nat.add_sub_cancel]⟩
  · intro n l hI
    show f_RO_weakest_5 (n + 1) (wI l) (nI 20) σ = _
    rw [f_RO_weakest_5, if_pos (Int32.le_refl _), hI]
theorem s_beginWith (hc : HC σ N) : ∃ x, f_RO_beginWith σ = some (0, x) ∧ Fr [94, 96] σ x ∧ LF N (os N 0) x ∧ ∀ k, k < 20 → x 96 k = wI (os N 0 k) := by
  unfold f_RO_beginWith
  rw [s_fill _ _ _ _ (by decide), bd_s]
  have h96 : ∀ k, k < 20 → upc σ 96 (fun j => if j < 20 then -5 else σ 96 j) 96 k = -5 := fun k hk => by rw [upc_s, if_pos hk]
  have hF0 : Fr [94, 96] σ (upc σ 96 (fun j => if j < 20 then -5 else σ 96 j)) := (Fr.rf _ _).upc _ (by decide)
  generalize upc σ 96 (fun j => if j < 20 then -5 else σ 96 j) = x0 at h96 hF0 ⊢
  refine Exists.elim (lpI (fun n k (x : Sg) => f_RO_beginWith_11 n (nI k) x) 20 (fun k x => Fr [94] x0 x ∧ ∀ j, j < k → x 94 j = bI (lft N (os N 0) j)) ?_ 0 FU x0 (Nat.zero_le _) (by decide) ⟨Fr.rf _ _, fun j hj => absurd hj (Nat.not_lt_zero _)⟩) ?_
  · intro n k x hk hJ
    obtain ⟨hF, h1⟩ := hJ
    show ∃ y, _ ∧ f_RO_beginWith_11 (n + 1) (nI k) x = _
    rw [f_RO_beginWith_11, if_neg (nI_ge hk (by decide)), s_isHead ((hc.fr hF0 (by decide)).fr hF (by decide)) hk, bd_s, inb_n hk (by omega), gd_t, bI_bit, gd_t, nI_clamp (by omega), lt', nI_add]
    refine ⟨_, ⟨hF.up _ _ (by decide), fun j hj => ?_⟩, rfl⟩
    rw [up_s]
    by_cases z : j = k
    · rw [z, upd_s]
      unfold lft
      rw [show decide (os N 0 k = 0) = true from decide_eq_true rfl, Bool.and_true]
    · rw [upd_n _ _ z]; exact h1 j (by omega)
  · rintro m ⟨x, ⟨hF, h1⟩, heq⟩
    refine ⟨x, heq.trans ?_, hF0.tr (hF.mono (by decide)), h1, fun k hk => by rw [hF 96 (by decide)]; exact h96 k hk⟩
    show f_RO_beginWith_11 (m + 1) (nI 20) x = _
    rw [f_RO_beginWith_11, if_pos (Int32.le_refl _)]
/-- what play leaves -/
def PAll (N : Rw) (x : Sg) : Prop := x 93 6 = nI (ng N - 1) ∧ (∀ r, r < ng N - 1 → x 97 r = nI (ho N r) ∧ x 98 r = nI (vo N r) ∧ x 99 r = nI (lo N (os N r))) ∧ ∀ k, k < 20 → x 96 k = wI (os N (ng N - 1) k)
theorem ho_ok {N : Rw} {r : Nat} (hr : r < ng N) : ho N r < 20 ∧ lft N (os N r) (ho N r) = true ∧ wk N (os N r) 20 = ho N r + 1 := by
  have h1 := wk_pos hr
  have h2 := wk_ok N (os N r) 20
  unfold ho
  exact ⟨by omega, h2.2.1 h1, by omega⟩
theorem s_play (h : QS σ N) (hc : HC σ N) (hr : RAll N σ) (hn : σ 82 2 = nI (ng N)) : ∃ x, f_RO_play σ = some (0, x) ∧ Fr [93, 94, 95, 96, 97, 98, 99] σ x ∧ PAll N x := by
  have hg := ng_le N
  unfold f_RO_play f_GR_number
  obtain ⟨σ1, a1, a2, a3, a4⟩ := s_beginWith hc
  have e93 : imin (imax (σ1 82 2 - nI 1) (nI 0)) (nI 20) = nI (ng N - 1) := by
    rw [a2 82 (by decide), hn, mI_sub]
    by_cases z : ng N = 0
    · rw [z]; decide
    · rw [mI_s z, imax_nI (by omega) (by decide), imin_nI (by omega) (by decide)]
      congr 1
      omega
  rw [a1, bd_s, bd_s, e93, lt']
  have hF1 : Fr [93, 94, 95, 96, 97, 98, 99] σ (up σ1 93 6 (nI (ng N - 1))) := (a2.mono (by decide)).up _ _ (by decide)
  have b3 : LF N (os N 0) (up σ1 93 6 (nI (ng N - 1))) := fun k hk => by rw [up_n _ _ _ (by decide)]; exact a3 k hk
  have b4 : ∀ k, k < 20 → up σ1 93 6 (nI (ng N - 1)) 96 k = wI (os N 0 k) := fun k hk => by rw [up_n _ _ _ (by decide)]; exact a4 k hk
  have b6 : up σ1 93 6 (nI (ng N - 1)) 93 6 = nI (ng N - 1) := by rw [up_s, upd_s]
  generalize up σ1 93 6 (nI (ng N - 1)) = x0 at hF1 b3 b4 b6 ⊢
  refine Exists.elim (lpI (fun n r (x : Sg) => f_RO_play_27 n (nI r) x) (ng N - 1) (fun r x => Fr [93, 94, 95, 96, 97, 98, 99] σ x ∧ x 93 6 = nI (ng N - 1) ∧ LF N (os N r) x ∧ (∀ k, k < 20 → x 96 k = wI (os N r k)) ∧ ∀ q, q < r → x 97 q = nI (ho N q) ∧ x 98 q = nI (vo N q) ∧ x 99 q = nI (lo N (os N q))) ?_ 0 FU x0 (Nat.zero_le _) (by unfold FU; omega) ⟨hF1, b6, b3, b4, fun q hq => absurd hq (Nat.not_lt_zero _)⟩) ?_
  · intro n r x hrl hJ
    obtain ⟨hF, h93, hL, h96, hO⟩ := hJ
    obtain ⟨o1, o2, o3⟩ := ho_ok (N := N) (r := r) (by omega)
    show ∃ y, _ ∧ f_RO_play_27 (n + 1) (nI r) x = _
    obtain ⟨y, k1, k2, k3⟩ := s_choose (h.fr hF (by decide)) (hc.fr hF (by decide)) hL
    have k92 : ∀ g, g < 20 → y 92 g = nI (if isHd N g = true then sr N g else 0) := fun g hg => by rw [k2 92 (by decide), hF 92 (by decide)]; exact hr.2.2 g hg
    have hLy : LF N (os N r) y := fun k hk => by rw [k2 94 (by decide)]; exact hL k hk
    rw [f_RO_play_27, h93, if_neg (nI_ge hrl (by omega)), k1, bd_s, s_weakest h.2.1 hLy k3 k92, bd_s, o3, wI_s (by omega), Nat.add_sub_cancel, s_put _ _ _ _ _ (by omega) (by decide), bd_s]
    have c1 : ∀ v, v < 12 → up y 97 r (nI (ho N r)) 95 v = wI (ch N (os N r) v) := fun v hv => by rw [up_n _ _ _ (by decide)]; exact k3 v hv
    rw [s_ballotsG h.2.1 c1 o1, bd_s, s_put _ _ _ _ _ (by omega) (by decide), bd_s]
    have c2 : ∀ v, v < 12 → up (up y 97 r (nI (ho N r))) 98 r (nI (gt N (os N r) (ho N r))) 95 v = wI (ch N (os N r) v) := fun v hv => by rw [up_n _ _ _ (by decide)]; exact c1 v hv
    rw [s_ballotsN h.2.1 c2, bd_s, s_put _ _ _ _ _ (by omega) (by decide), bd_s]
    unfold f_RO_leaveOut
    rw [s_idxN _ _ _ (by omega) (by decide), bd_s, decide_eq_true o1, if_neg (by decide), inb_n o1 (by omega), gd_t, lt', gd_t, lt', nI_clamp (by omega), bd_s, nI_add]
    refine ⟨_, ⟨((((((hF.tr (k2.mono (by decide))).up _ _ (by decide)).up _ _ (by decide)).up _ _ (by decide)).up _ _ (by decide)).up _ _ (by decide)), ?_, fun k hk => ?_, fun k hk => ?_, fun q hq => ?_⟩, rfl⟩
    · rw [up_n _ _ _ (by decide), up_n _ _ _ (by decide), up_n _ _ _ (by decide), up_n _ _ _ (by decide), up_n _ _ _ (by decide), k2 93 (by decide)]
      exact h93
    · rw [up_n _ _ _ (by decide), up_s, up_n _ _ _ (by decide), up_n _ _ _ (by decide), up_n _ _ _ (by decide)]
      unfold lft
      rw [os_s, o3]
      by_cases z : k = ho N r
      · rw [z, upd_s, if_pos rfl, decide_eq_false (by omega), Bool.and_false]; rfl
      · rw [upd_n _ _ z, if_neg (by omega)]; exact hLy k hk
    · rw [up_s, up_n _ _ _ (by decide), up_n _ _ _ (by decide), up_n _ _ _ (by decide), up_n _ _ _ (by decide), os_s, o3]
      by_cases z : k = ho N r
      · rw [z, upd_s, if_pos rfl, wI_s (by omega), Nat.add_sub_cancel]
      · rw [upd_n _ _ z, if_neg (by omega), k2 96 (by decide)]; exact h96 k hk
    · rw [up_n _ _ _ (by decide), up_n _ _ _ (by decide), up_n _ _ _ (by decide), up_n _ _ _ (by decide), up_s, up_n _ _ _ (by decide), up_n _ _ _ (by decide), up_n _ _ _ (by decide), up_s, up_n _ _ _ (by decide), up_n _ _ _ (by decide), up_n _ _ _ (by decide), up_s, up_n _ _ _ (by decide), up_n _ _ _ (by decide)]
      by_cases z : q = r
      · rw [z, upd_s, upd_s, upd_s]
        exact ⟨rfl, rfl, rfl⟩
      · rw [upd_n _ _ z, upd_n _ _ z, upd_n _ _ z, k2 97 (by decide), k2 98 (by decide), k2 99 (by decide)]
        exact hO q (by omega)
  · rintro m ⟨x, ⟨hF, h93, hL, h96, hO⟩, heq⟩
    refine ⟨x, heq.trans ?_, hF, h93, hO, h96⟩
    show f_RO_play_27 (m + 1) (nI (ng N - 1)) x = _
    rw [f_RO_play_27, h93, if_pos (Int32.le_refl _)]
end RO
