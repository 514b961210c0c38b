/-! judges -/
noncomputable def mxp (N : Rw) (j g : Nat) : Nat → Nat
  | 0 => 0
  | c + 1 => if inn N c = true ∧ hd N c = g then max (mxp N j g c) (ptc N (20 * j + c) - 1) else mxp N j g c
noncomputable def gp (N : Rw) (j g : Nat) : Nat := mxp N j g 20
noncomputable def mor (N : Rw) (j t : Nat) (k : Nat) : Bool := isHd N k && decide (t < gp N j k)
noncomputable def rk (N : Rw) (j g : Nat) : Nat := 1 + cnt (mor N j (gp N j g)) 20
noncomputable def sr (N : Rw) (g : Nat) : Nat := sm (fun j => rk N j g) 3
theorem mxp_le {N : Rw} (hN : InvN N) {j g : Nat} (hj : j < 3) : ∀ n, n ≤ 20 → mxp N j g n ≤ 10 := by
  intro n
  induction n with
  | zero => intro _; exact Nat.zero_le _
  | succ n ih =>
    intro hn
    have h1 := ih (by omega)
    have h2 := (hN.2.2.2.2.2.2.2.2.2.1 (20 * j + n) (by omega)).2
    rw [mxp]
    by_cases q : inn N n = true ∧ hd N n = g
    · rw [if_pos q]; omega
    · rw [if_neg q]; exact h1
theorem gp_le {N : Rw} (hN : InvN N) {j g : Nat} (hj : j < 3) : gp N j g ≤ 10 := mxp_le hN hj 20 (Nat.le_refl _)
theorem mxp_ev {N : Rw} (hN : InvN N) (j g : Nat) : mxp N j g (ev N) = gp N j g := by
  have hE := hN.1.2
  have key : ∀ k, ev N + k ≤ 20 → mxp N j g (ev N + k) = mxp N j g (ev N) := by
    intro k
    induction k with
    | zero => intro _; rfl
    | succ k ih =>
      intro hk
      rw [show ev N + (k + 1) = (ev N + k) + 1 by omega, mxp, if_neg]
      · exact ih (by omega)
      · intro q
        have := (hN.in_lt q.1).2
        omega
  have := key (20 - ev N) (by omega)
  rw [show ev N + (20 - ev N) = 20 by omega] at this
  exact this.symm
theorem imax_w {p q : Nat} (hp : p < 2147483648) (hq : q < 2147483648) : imax (nI p) (wI q) = nI (max p (q - 1)) := by
  by_cases z : q = 0
  · rw [z, show wI 0 = -5 from rfl]
    unfold imax
    rw [if_neg]
    · congr 1
      omega
    · intro h
      exact nI_pos hp (Int32.lt_trans h (by decide))
  · rw [wI_s z, imax_nI hp (by omega)]
theorem rk_le (N : Rw) (j g : Nat) : rk N j g ≤ 21 := by
  have := cnt_le (mor N j (gp N j g)) 20
  unfold rk
  omega
theorem sr_le (N : Rw) (g : Nat) : sr N g ≤ 63 := by
  have h0 := rk_le N 0 g
  have h1 := rk_le N 1 g
  have h2 := rk_le N 2 g
  show 0 + rk N 0 g + rk N 1 g + rk N 2 g ≤ 63
  omega
section RK
variable {σ : Sg} {N : Rw}
theorem s_raPoints {j g p : Nat} (hj : j < 3) (hg : g < 20) (hp : σ 90 (20 * j + g) = nI p) : f_RA_pointsBy (nI j) (nI g) σ = some (nI p, σ) := by
  unfold f_RA_pointsBy
  rw [nI_mul, nI_add, s_at _ _ _ _ (by omega) (by decide), bd_s, show j * 20 + g = 20 * j + g by omega, hp]
theorem s_fillPoints (h : QS σ N) (hc : HC σ N) {j : Nat} (hj : j < 3) (h0 : ∀ g, g < 20 → σ 90 (20 * j + g) = nI 0) :
    ∃ x, f_RA_fillPoints (nI j) σ = some (0, x) ∧ Fr [90] σ x ∧ (∀ g, g < 20 → x 90 (20 * j + g) = nI (gp N j g)) ∧ ∀ i, i < 20 * j ∨ 20 * j + 20 ≤ i → x 90 i = σ 90 i := by
  unfold f_RA_fillPoints
  refine Exists.elim (lpI (fun n c (x : Sg) => f_RA_fillPoints_3 n (nI j) (nI c) x) 20 (fun c x => Fr [90] σ x ∧ (∀ g, g < 20 → x 90 (20 * j + g) = nI (mxp N j g c)) ∧ ∀ i, i < 20 * j ∨ 20 * j + 20 ≤ i → x 90 i = σ 90 i) ?_ 0 FU σ (Nat.zero_le _) (by decide) ⟨Fr.rf _ _, h0, fun _ _ => rfl⟩) ?_
  · intro n c x hcl hJ
    obtain ⟨hF, h1, h2⟩ := hJ
    have hq := h.fr hF (by decide)
    show ∃ y, _ ∧ f_RA_fillPoints_3 (n + 1) (nI j) (nI c) x = _
    rw [f_RA_fillPoints_3, if_neg (nI_ge hcl (by decide)), s_headN (hc.fr hF (by decide)) hcl, bd_s]
    cases q : inn N c
    · rw [hdc_out q, if_pos rfl, nI_add]
      refine ⟨x, ⟨hF, fun g hg => ?_, h2⟩, rfl⟩
      rw [mxp, if_neg (fun z => by rw [q] at z; cases z.1)]
      exact h1 g hg
    · have hl := hd_le N c
      have hpt := (h.2.1.2.2.2.2.2.2.2.2.2.1 (20 * j + c) (by omega)).2
      have hm := mxp_le h.2.1 (j := j) (g := hd N c) hj c (by omega)
      rw [hdc_in q, if_neg (fun z => (ne5a (by omega)).mp z), s_raPoints hj (by omega) (h1 _ (by omega)), bd_s, r_points hq hj hcl, bd_s, imax_w (by omega) (by omega), lt', nI_mul, nI_add, s_put _ _ _ _ _ (by omega) (by decide), bd_s, nI_add]
      refine ⟨_, ⟨hF.up _ _ (by decide), fun g hg => ?_, fun i hi => ?_⟩, rfl⟩
      · rw [up_s, mxp]
        by_cases z : g = hd N c
        · rw [z, show j * 20 + hd N c = 20 * j + hd N c by omega, upd_s, if_pos ⟨q, rfl⟩]
        · rw [upd_n _ _ (by omega), if_neg (fun w => z w.2.symm)]
          exact h1 g hg
      · rw [up_s, upd_n _ _ (by omega)]
        exact h2 i hi
  · rintro m ⟨x, ⟨hF, h1, h2⟩, heq⟩
    refine ⟨x, heq.trans ?_, hF, h1, h2⟩
    show f_RA_fillPoints_3 (m + 1) (nI j) (nI 20) x = _
    rw [f_RA_fillPoints_3, if_pos (Int32.le_refl _)]
theorem s_groupsMore (hN : InvN N) (hc : HC σ N) {j t : Nat} (hj : j < 3) (ht : t < 2147483648) (hp : ∀ g, g < 20 → σ 90 (20 * j + g) = nI (gp N j g)) : f_RA_groupsWithMore (nI j) (nI t) σ = some (nI (cnt (mor N j t) 20), σ) := by
  unfold f_RA_groupsWithMore
  refine lpS (fun n i x => f_RA_groupsWithMore_6 n (nI j) (nI t) (nI x) (nI i) σ) 20 (fun k => b2n (mor N j t k)) (fun x => some (nI x, σ)) ?_ ?_ FU (by decide)
  · intro n i x hi hx
    show f_RA_groupsWithMore_6 (n + 1) (nI j) (nI t) (nI x) (nI i) σ = _
    have hg := gp_le hN (j := j) (g := i) hj
    rw [f_RA_groupsWithMore_6, if_neg (nI_ge hi (by decide)), s_isHead hc hi, bd_s, nI_add]
    cases q : isHd N i
    · rw [if_pos (by decide)]
      unfold mor
      rw [q]; rfl
    · rw [if_neg (by decide), s_raPoints hj hi (hp i hi), bd_s]
      by_cases z : t < gp N j i
      · rw [if_neg (nI_ge z (by omega)), nI_add]
        unfold mor
        rw [q, decide_eq_true z]; rfl
      · rw [if_pos ((nI_leI (by omega) ht).mpr (by omega))]
        unfold mor
        rw [q, decide_eq_false z]; rfl
  · intro n
    show f_RA_groupsWithMore_6 (n + 1) (nI j) (nI t) _ (nI 20) σ = _
    rw [f_RA_groupsWithMore_6, if_pos (Int32.le_refl _)]
/-- the class's ranks, of t judges -/
def RJ (N : Rw) (t : Nat) (x : Sg) : Prop := (∀ j g, j < t → g < 20 → x 90 (20 * j + g) = nI (gp N j g)) ∧ (∀ j g, j < t → g < 20 → isHd N g = true → x 91 (20 * j + g) = nI (rk N j g)) ∧ ∀ g, g < 20 → x 92 g = nI (if isHd N g = true then sm (fun j => rk N j g) t else 0)
theorem s_fillRanks (hN : InvN N) (hc : HC σ N) {j : Nat} (hj : j < 3) (hp : ∀ g, g < 20 → σ 90 (20 * j + g) = nI (gp N j g)) (hs : ∀ g, g < 20 → σ 92 g = nI (if isHd N g = true then sm (fun j => rk N j g) j else 0)) :
    ∃ x, f_RA_fillRanks (nI j) σ = some (0, x) ∧ Fr [91, 92] σ x ∧ (∀ g, g < 20 → isHd N g = true → x 91 (20 * j + g) = nI (rk N j g)) ∧ (∀ i, i < 20 * j → x 91 i = σ 91 i) ∧ ∀ g, g < 20 → x 92 g = nI (if isHd N g = true then sm (fun j => rk N j g) (j + 1) else 0) := by
  unfold f_RA_fillRanks
  refine Exists.elim (lpI (fun n c (x : Sg) => f_RA_fillRanks_2 n (nI j) (nI c) x) 20 (fun c x => Fr [91, 92] σ x ∧ (∀ g, g < c → isHd N g = true → x 91 (20 * j + g) = nI (rk N j g)) ∧ (∀ i, i < 20 * j → x 91 i = σ 91 i) ∧ ∀ g, g < 20 → x 92 g = nI (if isHd N g = true then (if g < c then sm (fun j => rk N j g) (j + 1) else sm (fun j => rk N j g) j) else 0)) ?_ 0 FU σ (Nat.zero_le _) (by decide) ⟨Fr.rf _ _, fun g hg => absurd hg (Nat.not_lt_zero _), fun _ _ => rfl, fun g hg => by rw [if_neg (Nat.not_lt_zero g)]; exact hs g hg⟩) ?_
  · intro n c x hcl hJ
    obtain ⟨hF, h1, h2, h3⟩ := hJ
    have hcx := hc.fr hF (by decide)
    have hpx : ∀ g, g < 20 → x 90 (20 * j + g) = nI (gp N j g) := fun g hg => by rw [hF 90 (by decide)]; exact hp g hg
    have hg := gp_le hN (j := j) (g := c) hj
    show ∃ y, _ ∧ f_RA_fillRanks_2 (n + 1) (nI j) (nI c) x = _
    rw [f_RA_fillRanks_2, if_neg (nI_ge hcl (by decide)), s_isHead hcx hcl, bd_s, nI_add]
    cases q : isHd N c
    · rw [if_pos (by decide)]
      refine ⟨x, ⟨hF, fun g hg hq => ?_, h2, fun g hg => ?_⟩, rfl⟩
      · rcases Nat.lt_or_ge g c with z | z
        · exact h1 g z hq
        · rw [show g = c by omega, q] at hq; cases hq
      · rw [h3 g hg]
        by_cases z : g = c
        · rw [z, q]; rfl
        · congr 2
          by_cases z2 : g < c
          · rw [if_pos z2, if_pos (by omega)]
          · rw [if_neg z2, if_neg (by omega)]
    · rw [if_neg (by decide), s_raPoints hj hcl (hpx c hcl), bd_s, s_groupsMore hN hcx hj (by omega) hpx, bd_s, nI_add, lt', nI_mul, nI_add, s_put _ _ _ _ _ (by omega) (by decide), bd_s, inb_n hcl (by omega), gd_t, gd_t, nI_clamp (by omega), up_n _ _ _ (by decide), h3 c hcl, q, if_pos rfl, if_neg (Nat.lt_irrefl _), nI_add, lt']
      refine ⟨_, ⟨(hF.up _ _ (by decide)).up _ _ (by decide), fun g hg hq => ?_, fun i hi => ?_, fun g hg => ?_⟩, rfl⟩
      · rw [up_n _ _ _ (by decide), up_s]
        by_cases z : g = c
        · rw [z, show j * 20 + c = 20 * j + c by omega, upd_s]; rfl
        · rw [upd_n _ _ (by omega)]
          exact h1 g (by omega) hq
      · rw [up_n _ _ _ (by decide), up_s, upd_n _ _ (by omega)]
        exact h2 i hi
      · rw [up_s]
        by_cases z : g = c
        · rw [z, upd_s, q, if_pos rfl, if_pos (by omega)]; rfl
        · rw [upd_n _ _ z, up_n _ _ _ (by decide), h3 g hg]
          congr 2
          by_cases z2 : g < c
          · rw [if_pos z2, if_pos (by omega)]
          · rw [if_neg z2, if_neg (by omega)]
  · rintro m ⟨x, ⟨hF, h1, h2, h3⟩, heq⟩
    refine ⟨x, heq.trans ?_, hF, h1, h2, fun g hg => by rw [h3 g hg, if_pos hg]⟩
    show f_RA_fillRanks_2 (m + 1) (nI j) (nI 20) x = _
    rw [f_RA_fillRanks_2, if_pos (Int32.le_refl _)]
def RAll (N : Rw) (x : Sg) : Prop := (∀ j g, j < 3 → g < 20 → x 90 (20 * j + g) = nI (gp N j g)) ∧ (∀ j g, j < 3 → g < 20 → isHd N g = true → x 91 (20 * j + g) = nI (rk N j g)) ∧ ∀ g, g < 20 → x 92 g = nI (if isHd N g = true then sr N g else 0)
theorem s_raFill (h : QS σ N) (hc : HC σ N) : ∃ x, f_RA_fill σ = some (0, x) ∧ Fr [90, 91, 92] σ x ∧ RAll N x := by
  unfold f_RA_fill
  rw [s_fill _ _ _ _ (by decide), bd_s, s_fill _ _ _ _ (by decide), bd_s, s_fill _ _ _ _ (by decide), bd_s]
  generalize hx0 : upc (upc (upc σ 90 (fun j => if j < 60 then nI 0 else σ 90 j)) 91 (fun j => if j < 60 then nI 0 else upc σ 90 (fun j => if j < 60 then nI 0 else σ 90 j) 91 j)) 92 (fun j => if j < 20 then nI 0 else upc (upc σ 90 (fun j => if j < 60 then nI 0 else σ 90 j)) 91 (fun j => if j < 60 then nI 0 else upc σ 90 (fun j => if j < 60 then nI 0 else σ 90 j) 91 j) 92 j) = x0
  have hF0 : Fr [90, 91, 92] σ x0 := by rw [← hx0]; exact (((Fr.rf _ _).upc _ (by decide)).upc _ (by decide)).upc _ (by decide)
  have h90 : ∀ j, j < 60 → x0 90 j = nI 0 := fun j hj => by rw [← hx0, upc_n _ _ (by decide), upc_n _ _ (by decide), upc_s, if_pos hj]
  have h92 : ∀ j, j < 20 → x0 92 j = nI 0 := fun j hj => by rw [← hx0, upc_s, if_pos hj]
  refine Exists.elim (lpI (fun n j (x : Sg) => f_RA_fill_26 n (nI j) x) 3 (fun j x => Fr [90, 91, 92] σ x ∧ RJ N j x ∧ ∀ i, 20 * j ≤ i → i < 60 → x 90 i = nI 0) ?_ 0 FU x0 (Nat.zero_le _) (by decide) ⟨hF0, ⟨fun j g hj => absurd hj (Nat.not_lt_zero _), fun j g hj => absurd hj (Nat.not_lt_zero _), fun g hg => by rw [h92 g hg]; cases isHd N g <;> rfl⟩, fun i _ hi => h90 i hi⟩) ?_
  · intro n j x hj hJ
    obtain ⟨hF, ⟨h1, h2, h3⟩, h4⟩ := hJ
    show ∃ y, _ ∧ f_RA_fill_26 (n + 1) (nI j) x = _
    rw [f_RA_fill_26, if_neg (nI_ge hj (by decide))]
    obtain ⟨y, k1, k2, k3, k4⟩ := s_fillPoints (h.fr hF (by decide)) (hc.fr hF (by decide)) hj (fun g hg => h4 _ (by omega) (by omega))
    rw [k1, bd_s]
    obtain ⟨z, m1, m2, m3, m4, m5⟩ := s_fillRanks h.2.1 ((hc.fr hF (by decide)).fr k2 (by decide)) hj k3 (fun g hg => by rw [k2 92 (by decide)]; exact h3 g hg)
    rw [m1, bd_s, nI_add]
    refine ⟨z, ⟨(hF.tr (k2.mono (by decide))).tr (m2.mono (by decide)), ⟨fun j' g hj' hg => ?_, fun j' g hj' hg hq => ?_, m5⟩, fun i hi hi2 => ?_⟩, rfl⟩
    · rw [m2 90 (by decide)]
      by_cases e : j' = j
      · rw [e]; exact k3 g hg
      · rw [k4 _ (by omega)]; exact h1 j' g (by omega) hg
    · by_cases e : j' = j
      · rw [e]; exact m3 g hg hq
      · rw [m4 _ (by omega), k2 91 (by decide)]; exact h2 j' g (by omega) hg hq
    · rw [m2 90 (by decide), k4 _ (by omega)]
      exact h4 i (by omega) hi2
  · rintro m ⟨x, ⟨hF, ⟨h1, h2, h3⟩, h4⟩, heq⟩
    refine ⟨x, heq.trans ?_, hF, h1, h2, h3⟩
    show f_RA_fill_26 (m + 1) (nI 3) x = _
    rw [f_RA_fill_26, if_pos (Int32.le_refl _)]
/-! the reference's -/
theorem m_isHead (hm : HM σ N) {c : Nat} (hc : c < 20) : f_MO_isHead (nI c) σ = some (bI (isHd N c), σ) := by
  unfold f_MO_isHead
  rw [if_neg (neg0 (by omega)), inb_n hc (by omega), gd_t, nI_clamp (by omega), hm c hc]
  cases q : inn N c
  · rw [hdm_out q, if_neg (fun z => (ne1a (a := c) (by omega)).mp z.symm), show isHd N c = false by simp [isHd, q]]
    rfl
  · rw [hdm_in q]
    by_cases e : hd N c = c
    · rw [e, if_pos rfl, (isHd_iff N c).mpr ⟨q, e⟩]; rfl
    · have := hd_le N c
      rw [if_neg (fun z => e ((nI_eq (by omega) (by omega)).mp z)), show isHd N c = false by simp [isHd, e]]
      rfl
theorem hdm_eq {c g : Nat} (hc : c < 20) (hg : g < 20) : (hdm N c = nI g) ↔ inn N c = true ∧ hd N c = g := by
  have := hd_le N c
  cases q : inn N c
  · rw [hdm_out q]
    exact ⟨fun z => ((ne1a (a := g) (by omega)).mp z.symm).elim, fun z => by cases z.1⟩
  · rw [hdm_in q, nI_eq (by omega) (by omega)]
    exact ⟨fun z => ⟨rfl, z⟩, fun z => z.2⟩
theorem mI_le {q p : Nat} (hq : q < 2147483648) (hp : p < 2147483648) : (mI q ≤ nI p) ↔ q - 1 ≤ p := by
  by_cases z : q = 0
  · rw [z]
    refine ⟨fun _ => by omega, fun _ => ?_⟩
    exact Int32.le_trans (show mI 0 ≤ nI 0 by decide) ((nI_leI (by decide) hp).mpr (Nat.zero_le _))
  · rw [mI_s z, nI_leI (by omega) hp]
theorem m_most (h : MR σ N) (hm : HM σ N) {j g : Nat} (hj : j < 3) (hg : g < 20) : f_MO_most (nI j) (nI g) σ = some (nI (gp N j g), σ) := by
  have hE := h.2.1.2
  unfold f_MO_most
  refine lpE (fun n c (x : Nat) => f_MO_most_5 n (nI j) (nI g) (nI x) (nI c) σ) (ev N) (fun c x => x = mxp N j g c) (fun r => r = some (nI (gp N j g), σ)) ?_ ?_ (ev N) 0 FU 0 (Nat.zero_add _) (by unfold FU; omega) rfl
  · intro n c x hc hx
    right
    have hp := h.2.2.2.2.2.2.2.2.2.2.1 (20 * j + c) (by omega)
    have hmx := mxp_le h.2 (j := j) (g := g) hj c (by omega)
    show ∃ y, _ ∧ f_MO_most_5 (n + 1) (nI j) (nI g) (nI x) (nI c) σ = _
    rw [f_MO_most_5, inb_n (by decide) (by decide), gd_t, nI_clamp (by decide), m_ev h, if_neg (nI_ge hc (by omega)), nI_mul, nI_add, nI_add, inb_n (by omega) (by omega), gd_t, nI_clamp (by omega), show 1325 + 20 * j + c = 1325 + (20 * j + c) by omega, h.1 _ (by omega), hp.1, mI_sub, lt', inb_n (by omega) (by omega), gd_t, nI_clamp (by omega), hm c (by omega), nI_add]
    by_cases q : inn N c = true ∧ hd N c = g
    · rw [if_pos ((hdm_eq (by omega) hg).mpr q), hx]
      by_cases z : ptc N (20 * j + c) - 1 ≤ mxp N j g c
      · rw [if_pos ((mI_le (by omega) (by omega)).mpr z)]
        refine ⟨mxp N j g c, ?_, rfl⟩
        rw [mxp, if_pos q]; omega
      · rw [if_neg (fun w => z ((mI_le (by omega) (by omega)).mp w)), mI_s (by omega)]
        refine ⟨ptc N (20 * j + c) - 1, ?_, rfl⟩
        rw [mxp, if_pos q]; omega
    · rw [if_neg (fun w => q ((hdm_eq (by omega) hg).mp w))]
      refine ⟨x, ?_, rfl⟩
      rw [mxp, if_neg q, hx]
  · intro n x hx
    show f_MO_most_5 (n + 1) (nI j) (nI g) (nI x) (nI (ev N)) σ = _
    rw [f_MO_most_5, inb_n (by decide) (by decide), gd_t, nI_clamp (by decide), m_ev h, if_pos (Int32.le_refl _), hx, mxp_ev h.2]
theorem m_rank (h : MR σ N) (hm : HM σ N) {j g : Nat} (hj : j < 3) (hg : g < 20) : f_MO_rank (nI j) (nI g) σ = some (nI (rk N j g), σ) := by
  have hE := h.2.1.2
  unfold f_MO_rank
  rw [m_most h hm hj hg, bd_s]
  refine lpE (fun n c (x : Nat) => f_MO_rank_13 n (nI j) (nI x) (nI (gp N j g)) (nI c) σ) (ev N) (fun c x => x = 1 + cnt (mor N j (gp N j g)) c) (fun r => r = some (nI (rk N j g), σ)) ?_ ?_ (ev N) 0 FU 1 (Nat.zero_add _) (by unfold FU; omega) rfl
  · intro n c x hc hx
    right
    have h1 := gp_le h.2 (j := j) (g := c) hj
    have h2 := gp_le h.2 (j := j) (g := g) hj
    show ∃ y, _ ∧ f_MO_rank_13 (n + 1) (nI j) (nI x) (nI (gp N j g)) (nI c) σ = _
    rw [f_MO_rank_13, inb_n (by decide) (by decide), gd_t, nI_clamp (by decide), m_ev h, if_neg (nI_ge hc (by omega)), m_isHead hm (by omega), bd_s, nI_add]
    cases q : isHd N c
    · rw [if_pos (by decide), nI_add, lt']
      refine ⟨x + 0, ?_, rfl⟩
      rw [cnt_s, hx]
      unfold mor
      rw [q]; rfl
    · rw [if_neg (by decide), m_most h hm hj (by omega), bd_s]
      by_cases z : gp N j c ≤ gp N j g
      · rw [if_pos ((nI_leI (by omega) (by omega)).mpr z), nI_add, lt']
        refine ⟨x + 0, ?_, rfl⟩
        rw [cnt_s, hx, show mor N j (gp N j g) c = false by unfold mor; rw [decide_eq_false (by omega), Bool.and_false]]
        rfl
      · rw [if_neg (fun w => z ((nI_leI (by omega) (by omega)).mp w))]
        simp only [nI_add, lt']
        refine ⟨x + 1, ?_, rfl⟩
        rw [cnt_s, hx, show mor N j (gp N j g) c = true by unfold mor; rw [q, decide_eq_true (by omega)]; rfl]
        rfl
  · intro n x hx
    show f_MO_rank_13 (n + 1) (nI j) (nI x) (nI (gp N j g)) (nI (ev N)) σ = _
    rw [f_MO_rank_13, inb_n (by decide) (by decide), gd_t, nI_clamp (by decide), m_ev h, if_pos (Int32.le_refl _), hx]
    unfold rk
    have : cnt (mor N j (gp N j g)) (ev N) = cnt (mor N j (gp N j g)) 20 := (sm_out hE (fun i h1 h2 => by
      have : mor N j (gp N j g) i = false := by
        unfold mor
        cases w : isHd N i
        · rfl
        · have := (h.2.in_lt ((isHd_iff N i).mp w).1).2; omega
      rw [this, b2n_f])).symm
    rw [this]
end RK
