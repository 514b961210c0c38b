/-! the reference's rounds -/
theorem mI_iff {x g : Nat} (hx : x ≤ 2000) (hg : g < 2000) : (mI x = nI g) ↔ x = g + 1 := by
  by_cases q : x = 0
  · rw [q]
    exact ⟨fun z => ((ne1a (a := g) (by omega)).mp z.symm).elim, fun z => by omega⟩
  · rw [mI_s q, nI_eq (by omega) (by omega)]
    omega
theorem mI_neg {x : Nat} (hx : x ≤ 2000) : (mI x < nI 0) ↔ x = 0 := by
  by_cases q : x = 0
  · rw [q]; exact ⟨fun _ => rfl, fun _ => by decide⟩
  · rw [mI_s q]
    exact ⟨fun z => absurd z (neg0 (by omega)), fun z => absurd z q⟩
theorem mI_nn {x : Nat} (hx : x ≤ 2000) : (nI 0 ≤ mI x) ↔ x ≠ 0 := by
  rw [← Int32.not_lt, mI_neg hx]
section MRO
variable {σ : Sg} {N : Rw}
theorem m_standsFor (hN : InvN N) (hm : HM σ N) (h128 : ∀ c, c < 36 → σ 128 c = mI (fc N c)) {o : Nat → Nat} (ho : ∀ k, k < 20 → o k ≤ 20 ∧ σ 121 k = mI (o k)) {v : Nat} (hv : v < 12) : f_MO_standsFor (nI v) σ = some (mI (ch N o v), σ) := by
  unfold f_MO_standsFor
  refine lpE (fun n w (_ : Unit) => f_MO_standsFor_2 n (nI v) (nI w) σ) 3 (fun w _ => chm N o (fun k => fc N (3 * v + k)) w = 0) (fun r => r = some (mI (ch N o v), σ)) ?_ ?_ 3 0 FU () rfl (by decide) rfl
  · intro n w _ hw3 hI
    have hf := fc_le hN (c := 3 * v + w) (by omega)
    have hs := chm_s N o (fun k => fc N (3 * v + k)) w
    rw [if_neg (by rw [hI]; omega)] at hs
    show f_MO_standsFor_2 (n + 1) (nI v) (nI w) σ = _ ∨ _
    rw [f_MO_standsFor_2, if_neg (nI_ge hw3 (by decide)), nI_mul, nI_add, inb_n (by omega) (by omega), gd_t, nI_clamp (by omega), h128 _ (by omega), lt', nI_add]
    by_cases z : fc N (3 * v + w) = 0
    · right
      rw [if_pos ((mI_neg (by omega)).mpr z)]
      exact ⟨(), by rw [hs, if_neg (fun q => q.1.1 z)], rfl⟩
    · have hin := hf.2 z
      have hl := hd_le N (fc N (3 * v + w) - 1)
      rw [if_neg (fun q => z ((mI_neg (by omega)).mp q)), mI_s z, inb_n (by omega) (by omega), gd_t, nI_clamp (by omega), hm _ (by omega), hdm_in hin, inb_n (by omega) (by omega), gd_t, nI_clamp (by omega), gd_t]
      obtain ⟨o1, o2⟩ := ho (hd N (fc N (3 * v + w) - 1)) (by omega)
      rw [o2]
      by_cases z2 : o (hd N (fc N (3 * v + w) - 1)) = 0
      · left
        rw [if_neg (by rw [mI_nn (by omega)]; exact fun q => q z2)]
        rw [if_pos ⟨⟨z, hin⟩, z2⟩] at hs
        have := chm_stay (N := N) (o := o) (f := fun k => fc N (3 * v + k)) (n := w + 1) (by rw [hs]; omega) (2 - w)
        rw [show w + 1 + (2 - w) = 3 by omega, hs] at this
        rw [← ch_fc, this, mI_s (by omega), Nat.add_sub_cancel]
      · right
        rw [if_pos ((mI_nn (by omega)).mpr z2)]
        exact ⟨(), by rw [hs, if_neg (fun q => z2 q.2)], rfl⟩
  · intro n _ hI
    show f_MO_standsFor_2 (n + 1) (nI v) (nI 3) σ = _
    rw [f_MO_standsFor_2, if_pos (Int32.le_refl _), ← ch_fc, hI]
    rfl
def OM (N : Rw) (o : Nat → Nat) (x : Sg) : Prop := ∀ k, k < 20 → o k ≤ 20 ∧ x 121 k = mI (o k)
/-- one round -/
theorem m_round (h : MR σ N) (ht : TM N σ) {r : Nat} (hr : r + 1 < ng N) (hom : OM N (os N r) σ) (K : Int32 → Sg → Option (Int32 × Sg)) :
    ∃ x, Fr [121, 122, 123, 124, 127] σ x ∧ OM N (os N (r + 1)) x ∧ (∀ q, q ≠ r → x 122 q = σ 122 q ∧ x 123 q = σ 123 q ∧ x 124 q = σ 124 q) ∧ (x 122 r = nI (ho N r) ∧ x 123 r = nI (vo N r) ∧ x 124 r = nI (lo N (os N r))) ∧ f_MO_goesRounds_35 K FU (nI r) (nI 0) σ = K (nI (r + 1)) x := by
  have hg := ng_le N
  have hE := h.2.1.2
  obtain ⟨o1, o2, o3⟩ := ho_ok (N := N) (r := r) (by omega)
  obtain ⟨t1, t2, t3, t4, t5⟩ := ht
  refine Exists.elim (lpI (fun n k (x : Sg) => f_MO_goesRounds_35 K n (nI r) (nI k) x) 20 (fun k x => Fr [127] σ x ∧ ∀ j, j < k → x 127 j = nI 0) ?_ 0 FU σ (Nat.zero_le _) (by decide) ⟨Fr.rf _ _, fun j hj => absurd hj (Nat.not_lt_zero _)⟩) ?_
  · intro n k x hk hJ
    obtain ⟨hF, h1⟩ := hJ
    show ∃ y, _ ∧ f_MO_goesRounds_35 K (n + 1) (nI r) (nI k) x = _
    rw [f_MO_goesRounds_35, if_neg (nI_ge hk (by decide)), inb_n hk (by omega), gd_t, lt', nI_clamp (by omega), nI_add]
    refine ⟨_, ⟨hF.up _ _ (by decide), fun j hj => ?_⟩, rfl⟩
    rw [up_s]
    by_cases z : j = k
    · rw [z, upd_s]
    · rw [upd_n _ _ z]; exact h1 j (by omega)
  rintro m ⟨x, ⟨hF, h1⟩, heq⟩
  have hq : f_MO_goesRounds_35 K (m + 1) (nI r) (nI 20) x = f_MO_goesRounds_63 K FU (nI r) (nI 0) (up x 124 r (nI 0)) := by
    rw [f_MO_goesRounds_35, if_pos (Int32.le_refl _), inb_n (by omega) (by omega), gd_t, lt', nI_clamp (by omega)]
  have heq := heq.trans hq
  -- the visitors
  have hF2 : Fr [124, 127] σ (up x 124 r (nI 0)) := (hF.mono (by decide)).up _ _ (by decide)
  have h2 : ∀ j, j < 20 → up x 124 r (nI 0) 127 j = nI 0 := fun j hj => by rw [up_n _ _ _ (by decide)]; exact h1 j hj
  have h3 : up x 124 r (nI 0) 124 r = nI 0 := by rw [up_s, upd_s]
  have h4 : ∀ q, q ≠ r → up x 124 r (nI 0) 124 q = σ 124 q := fun q hq => by rw [up_s, upd_n _ _ hq, hF 124 (by decide)]
  generalize up x 124 r (nI 0) = x0 at hF2 h2 h3 h4 heq
  refine Exists.elim (lpI (fun n v (x : Sg) => f_MO_goesRounds_63 K n (nI r) (nI v) x) 12 (fun v x => Fr [124, 127] σ x ∧ (∀ g, g < 20 → x 127 g = nI (cnt (fun u => decide (ch N (os N r) u = g + 1)) v)) ∧ x 124 r = nI (cnt (fun u => decide (ch N (os N r) u = 0)) v) ∧ ∀ q, q ≠ r → x 124 q = σ 124 q) ?_ 0 FU x0 (Nat.zero_le _) (by decide) ⟨hF2, h2, h3, h4⟩) ?_
  · intro n v y hv hJ
    obtain ⟨hF, g1, g2, g3⟩ := hJ
    show ∃ z, _ ∧ f_MO_goesRounds_63 K (n + 1) (nI r) (nI v) y = _
    have hc20 := ch_le h.2 (os N r) v
    rw [f_MO_goesRounds_63, if_neg (nI_ge hv (by decide)), m_standsFor h.2 (t1.fr hF (by decide)) (fun c hc => by rw [hF 128 (by decide)]; exact t4 c hc) (o := os N r) (fun k hk => by rw [hF 121 (by decide)]; exact hom k hk) hv, bd_s]
    by_cases z : ch N (os N r) v = 0
    · rw [if_neg (by rw [mI_nn (by omega)]; exact fun q => q z), inb_n (by omega) (by omega), gd_t, gd_t, nI_clamp (by omega), g2, nI_add, lt', nI_add]
      refine ⟨_, ⟨hF.up _ _ (by decide), fun g hg => ?_, ?_, fun q hq => ?_⟩, rfl⟩
      · rw [up_n _ _ _ (by decide), g1 g hg, cnt_s, decide_eq_false (by omega), b2n_f]; rfl
      · rw [up_s, upd_s, cnt_s, decide_eq_true z, b2n_t]
      · rw [up_s, upd_n _ _ hq]; exact g3 q hq
    · rw [if_pos ((mI_nn (by omega)).mpr z), mI_s z, inb_n (by omega) (by omega), gd_t, gd_t, nI_clamp (by omega), g1 _ (by omega), nI_add, lt', nI_add]
      refine ⟨_, ⟨hF.up _ _ (by decide), fun g hg => ?_, ?_, fun q hq => ?_⟩, rfl⟩
      · rw [up_s, cnt_s]
        by_cases e : g = ch N (os N r) v - 1
        · rw [e, upd_s, show decide (ch N (os N r) v = ch N (os N r) v - 1 + 1) = true from decide_eq_true (by omega), b2n_t]
        · rw [upd_n _ _ e, decide_eq_false (by omega), b2n_f]
          exact g1 g hg
      · rw [up_n _ _ _ (by decide), g2, cnt_s, decide_eq_false z, b2n_f, Nat.add_zero]
      · rw [up_n _ _ _ (by decide)]; exact g3 q hq
  rintro m2 ⟨y, ⟨hF3, g1, g2, g3⟩, heq2⟩
  have hq2 : f_MO_goesRounds_63 K (m2 + 1) (nI r) (nI 12) y = f_MO_goesRounds_112 K FU (nI r) (mI 0) (nI 0) y := by
    rw [f_MO_goesRounds_63, if_pos (Int32.le_refl _)]; rfl
  have heq := heq.trans (heq2.trans hq2)
  have hmy := h.fr hF3 (by decide)
  have hhy := t1.fr hF3 (by decide)
  -- the weakest
  refine Exists.elim (lpI (fun n k (l : Nat) => f_MO_goesRounds_112 K n (nI r) (mI l) (nI k) y) (ev N) (fun k l => l = wk N (os N r) k) ?_ 0 FU 0 (Nat.zero_le _) (by unfold FU; omega) rfl) ?_
  · intro n k l hk hI
    subst hI
    obtain ⟨w1, w2, -⟩ := wk_ok N (os N r) k
    show ∃ z, _ ∧ f_MO_goesRounds_112 K (n + 1) (nI r) (mI (wk N (os N r) k)) (nI k) y = _
    rw [f_MO_goesRounds_112, inb_n (by decide) (by decide), gd_t, nI_clamp (by decide), m_ev hmy, if_neg (nI_ge hk (by omega)), m_isHead hhy (by omega), bd_s, nI_add]
    have no : lft N (os N r) k = false → ∃ z, z = wk N (os N r) (k + 1) ∧ f_MO_goesRounds_112 K n (nI r) (mI (wk N (os N r) k)) (nI (k + 1)) y = f_MO_goesRounds_112 K n (nI r) (mI z) (nI (k + 1)) y := fun q => ⟨wk N (os N r) k, by rw [wk, if_neg (fun z => by rw [q] at z; cases z.1)], rfl⟩
    cases q : isHd N k
    · rw [if_pos (by decide)]
      exact no (by unfold lft; rw [q]; rfl)
    · rw [if_neg (by decide), inb_n (by omega) (by omega), gd_t, nI_clamp (by omega), hF3 121 (by decide), (hom k (by omega)).2]
      have ok20 := (hom k (by omega)).1
      by_cases z : os N r k = 0
      · have hlk : lft N (os N r) k = true := by unfold lft; rw [q, decide_eq_true z]; rfl
        rw [if_neg (by rw [mI_nn (by omega)]; exact fun w => w z)]
        have yes : ∀ L : Int32, (wk N (os N r) k = 0 ∨ wkr N (os N r) k (wk N (os N r) k - 1) = true) → ∃ z, z = wk N (os N r) (k + 1) ∧ f_MO_goesRounds_193 (fun x1 x2 x3 σ => f_MO_goesRounds_112 K n x1 x2 x3 σ) (nI r) L (nI k) (nI 1) y = f_MO_goesRounds_112 K n (nI r) (mI z) (nI (k + 1)) y := by
          intro L w
          refine ⟨k + 1, by rw [wk, if_pos ⟨hlk, w⟩], ?_⟩
          unfold f_MO_goesRounds_193
          rw [if_neg (by decide), nI_add, mI_s (by omega), Nat.add_sub_cancel]
        have nay : ∀ L : Int32, L = mI (wk N (os N r) k) → wk N (os N r) k ≠ 0 → wkr N (os N r) k (wk N (os N r) k - 1) = false → ∃ z, z = wk N (os N r) (k + 1) ∧ f_MO_goesRounds_193 (fun x1 x2 x3 σ => f_MO_goesRounds_112 K n x1 x2 x3 σ) (nI r) L (nI k) (nI 0) y = f_MO_goesRounds_112 K n (nI r) (mI z) (nI (k + 1)) y := by
          intro L hL w w2
          refine ⟨wk N (os N r) k, by rw [wk, if_neg (fun z => by rcases z.2 with z | z; exact w z; rw [w2] at z; cases z)], ?_⟩
          unfold f_MO_goesRounds_193
          rw [if_pos rfl, nI_add, hL]
        by_cases z2 : wk N (os N r) k = 0
        · rw [if_pos ((mI_neg (by omega)).mpr z2)]
          exact yes _ (Or.inl z2)
        · rw [if_neg (fun w => z2 ((mI_neg (by omega)).mp w))]
          have hll := (lft_hd (w2 z2)).1
          have gk := gt_le N (os N r) k
          have gl := gt_le N (os N r) (wk N (os N r) k - 1)
          have sk := sr_le N k
          have sl := sr_le N (wk N (os N r) k - 1)
          have e127 : ∀ g, g < 20 → y 127 g = nI (gt N (os N r) g) := g1
          rw [mI_s z2, gd_t, inb_n (by omega) (by omega), gd_t, nI_clamp (by omega), e127 k (by omega), e127 _ (by omega), gd_t, gd_t, gd_t, gd_t, hF3 120 (by decide), (t5 k (by omega)).2.2, q, if_pos rfl, (t5 (wk N (os N r) k - 1) (by omega)).2.2, hll, if_pos rfl]
          by_cases c1 : gt N (os N r) k < gt N (os N r) (wk N (os N r) k - 1)
          · rw [if_pos ((nI_ltI (by omega) (by omega)).mpr c1)]
            exact yes _ (Or.inr (by unfold wkr; rw [decide_eq_true c1]; rfl))
          · rw [if_neg (by rw [nI_ltI (by omega) (by omega)]; exact c1)]
            by_cases c2 : gt N (os N r) k = gt N (os N r) (wk N (os N r) k - 1)
            · rw [if_pos (by rw [c2])]
              by_cases c3 : sr N k < sr N (wk N (os N r) k - 1)
              · rw [if_pos ((nI_ltI (by omega) (by omega)).mpr c3)]
                exact nay _ (mI_s z2).symm z2 (by unfold wkr; rw [decide_eq_false c1, decide_eq_false (p := sr N (wk N (os N r) k - 1) ≤ sr N k) (by omega), Bool.and_false]; rfl)
              · rw [if_neg (by rw [nI_ltI (by omega) (by omega)]; exact c3)]
                exact yes _ (Or.inr (by unfold wkr; rw [decide_eq_true c2, decide_eq_true (p := sr N (wk N (os N r) k - 1) ≤ sr N k) (by omega), Bool.and_true, Bool.or_true]))
            · rw [if_neg (by rw [nI_eq (by omega) (by omega)]; exact c2)]
              exact nay _ (mI_s z2).symm z2 (by unfold wkr; rw [decide_eq_false c1, decide_eq_false c2, Bool.false_and]; rfl)
      · rw [if_pos ((mI_nn (by omega)).mpr z)]
        exact no (by unfold lft; rw [decide_eq_false z, Bool.and_false])
  rintro m3 ⟨l, hI, heq3⟩
  have hwe : wk N (os N r) (ev N) = wk N (os N r) 20 := by
    have key : ∀ k, ev N + k ≤ 20 → wk N (os N r) (ev N + k) = wk N (os N r) (ev N) := by
      intro k
      induction k with
      | zero => intro _; rfl
      | succ k ih =>
        intro hk
        rw [← Nat.add_assoc, wk, if_neg]
        · exact ih (by omega)
        · intro z
          have := (h.2.in_lt ((isHd_iff N _).mp (lft_hd z.1).1).1).2
          omega
    have := key (20 - ev N) (by omega)
    rw [show ev N + (20 - ev N) = 20 by omega] at this
    exact this.symm
  rw [hwe, o3] at hI
  have heq := heq.trans heq3
  refine ⟨up (up (up y 121 (ho N r) (nI r)) 122 r (nI (ho N r))) 123 r (nI (vo N r)), (((hF3.mono (by decide)).up _ _ (by decide)).up _ _ (by decide)).up _ _ (by decide), fun k hk => ?_, fun q hq => ?_, ⟨?_, ?_, ?_⟩, heq.trans ?_⟩
  · rw [up_n _ _ _ (by decide), up_n _ _ _ (by decide), up_s, os_s, o3]
    by_cases z : k = ho N r
    · rw [z, upd_s, if_pos rfl]
      exact ⟨by omega, by rw [mI_s (by omega), Nat.add_sub_cancel]⟩
    · rw [upd_n _ _ z, if_neg (by omega), hF3 121 (by decide)]
      exact hom k hk
  · rw [up_n _ _ _ (by decide), up_s, upd_n _ _ hq, up_n _ _ _ (by decide), up_s, upd_n _ _ hq, up_n _ _ _ (by decide), up_n _ _ _ (by decide), up_n _ _ _ (by decide), up_n _ _ _ (by decide), up_n _ _ _ (by decide), hF3 122 (by decide), hF3 123 (by decide)]
    exact ⟨rfl, rfl, g3 q hq⟩
  · rw [up_n _ _ _ (by decide), up_s, upd_s]
  · rw [up_s, upd_s]
  · rw [up_n _ _ _ (by decide), up_n _ _ _ (by decide), up_n _ _ _ (by decide), g2]
    rfl
  · show f_MO_goesRounds_112 K (m3 + 1) (nI r) (mI l) (nI (ev N)) y = _
    rw [f_MO_goesRounds_112, inb_n (by decide) (by decide), gd_t, nI_clamp (by decide), m_ev hmy, if_pos (Int32.le_refl _), hI, mI_s (by omega), Nat.add_sub_cancel, inb_n o1 (by omega), gd_t, lt', inb_n (a := r) (by omega) (by omega), gd_t, lt', gd_t, gd_t, nI_clamp (by omega), nI_clamp (by omega), lt', nI_add, up_n _ _ _ (by decide), up_n _ _ _ (by decide), g1 _ o1]
    rfl
def GAll (N : Rw) (x : Sg) : Prop := (∀ r, r < ng N - 1 → x 122 r = nI (ho N r) ∧ x 123 r = nI (vo N r) ∧ x 124 r = nI (lo N (os N r))) ∧ OM N (os N (ng N - 1)) x
theorem m_rounds (h : MR σ N) (ht : TM N σ) : ∃ x, f_MO_goesRounds σ = some (0, x) ∧ Fr [121, 122, 123, 124, 127] σ x ∧ GAll N x := by
  have hg := ng_le N
  unfold f_MO_goesRounds
  have tmfr : ∀ {x : Sg}, Fr [121, 122, 123, 124, 127] σ x → TM N x := fun {x} hF => ⟨ht.1.fr hF (by decide), by rw [hF 112 (by decide)]; exact ht.2.1, ht.2.2.1.fr hF (by decide), fun c hc => by rw [hF 128 (by decide)]; exact ht.2.2.2.1 c hc, fun g hg => by rw [hF 118 (by decide), hF 119 (by decide), hF 120 (by decide)]; exact ht.2.2.2.2 g hg⟩
  refine Exists.elim (lpI (fun n k (x : Sg) => f_MO_goesRounds_2 n (nI k) x) 20 (fun k x => Fr [121] σ x ∧ ∀ j, j < k → x 121 j = mI 0) ?_ 0 FU σ (Nat.zero_le _) (by decide) ⟨Fr.rf _ _, fun j hj => absurd hj (Nat.not_lt_zero _)⟩) ?_
  · intro n k x hk hJ
    obtain ⟨hF, h1⟩ := hJ
    show ∃ y, _ ∧ f_MO_goesRounds_2 (n + 1) (nI k) x = _
    rw [f_MO_goesRounds_2, if_neg (nI_ge hk (by decide)), inb_n hk (by omega), gd_t, lt', nI_clamp (by omega), nI_add]
    refine ⟨_, ⟨hF.up _ _ (by decide), fun j hj => ?_⟩, rfl⟩
    rw [up_s]
    by_cases z : j = k
    · rw [z, upd_s]; rfl
    · rw [upd_n _ _ z]; exact h1 j (by omega)
  rintro m ⟨x, ⟨hF, h1⟩, heq⟩
  have hq : f_MO_goesRounds_2 (m + 1) (nI 20) x = f_MO_goesRounds_23 FU (nI 0) x := by
    rw [f_MO_goesRounds_2, if_pos (Int32.le_refl _)]
  have heq := heq.trans hq
  refine Exists.elim (lpI (fun n r (x : Sg) => f_MO_goesRounds_23 n (nI r) x) (ng N - 1) (fun r x => Fr [121, 122, 123, 124, 127] σ x ∧ OM N (os N r) x ∧ ∀ q, q < r → x 122 q = nI (ho N q) ∧ x 123 q = nI (vo N q) ∧ x 124 q = nI (lo N (os N q))) ?_ 0 FU x (Nat.zero_le _) (by unfold FU; omega) ⟨hF.mono (by decide), fun k hk => ⟨Nat.zero_le _, h1 k hk⟩, fun q hq => absurd hq (Nat.not_lt_zero _)⟩) ?_
  · intro n r y hr hJ
    obtain ⟨hF, hO, h2⟩ := hJ
    show ∃ z, _ ∧ f_MO_goesRounds_23 (n + 1) (nI r) y = _
    rw [f_MO_goesRounds_23, (tmfr hF).2.1, nI_add, if_neg (nI_ge (by omega) (by omega))]
    obtain ⟨z, k1, k2, k3, k4, k5⟩ := m_round (h.fr hF (by decide)) (tmfr hF) (r := r) (by omega) hO (fun x1 σ => f_MO_goesRounds_23 n x1 σ)
    refine ⟨z, ⟨hF.tr k1, k2, fun q hq => ?_⟩, k5⟩
    by_cases e : q = r
    · rw [e]; exact k4
    · obtain ⟨e1, e2, e3⟩ := k3 q e
      rw [e1, e2, e3]; exact h2 q (by omega)
  · rintro m2 ⟨y, ⟨hF, hO, h2⟩, heq2⟩
    refine ⟨y, heq.trans (heq2.trans ?_), hF, h2, hO⟩
    show f_MO_goesRounds_23 (m2 + 1) (nI (ng N - 1)) y = _
    rw [f_MO_goesRounds_23, (tmfr hF).2.1, nI_add, if_pos ((nI_leI (by omega) (by omega)).mpr (by omega))]
end MRO
