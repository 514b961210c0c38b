/-! the reference's tallies -/
/-- what tallies leaves: heads, counted ballots, points, first wishes, sums of ranks -/
def TM (N : Rw) (x : Sg) : Prop := HM x N ∧ x 112 23 = nI (ng N) ∧ CoreOK x N ∧ (∀ c, c < 36 → x 128 c = mI (fc N c)) ∧ ∀ g, g < 20 → x 118 g = nI (pts N g) ∧ x 119 g = nI (frs N g) ∧ x 120 g = nI (if isHd N g = true then sr N g else 0)
theorem irm3 (c : Nat) (h : c < 2147483648) : irm (nI c) (nI 3) = nI (c % 3) := pk_rem h (by decide) (by decide)
section TL
variable {σ : Sg} {N : Rw}
theorem m_tal_sum (h : MR σ N) (hm : HM σ N) (h128 : ∀ c, c < 36 → σ 128 c = mI (fc N c)) (h0 : ∀ g, g < 20 → σ 118 g = nI 0 ∧ σ 119 g = nI 0) :
    ∃ x, f_MO_tallies_76 FU (nI 0) σ = some (0, x) ∧ Fr [118, 119] σ x ∧ ∀ g, g < 20 → x 118 g = nI (pts N g) ∧ x 119 g = nI (frs N g) := by
  refine Exists.elim (lpI (fun n c (x : Sg) => f_MO_tallies_76 n (nI c) x) 36 (fun c x => Fr [118, 119] σ x ∧ ∀ g, g < 20 → x 118 g = nI (sm (pw N g) c) ∧ x 119 g = nI (sm (fw N g) c)) ?_ 0 FU σ (Nat.zero_le _) (by decide) ⟨Fr.rf _ _, h0⟩) ?_
  · intro n c x hc hJ
    obtain ⟨hF, hT⟩ := hJ
    have hf := fc_le h.2 hc
    have e128 : x 128 c = mI (fc N c) := by rw [hF 128 (by decide)]; exact h128 c hc
    show ∃ y, _ ∧ f_MO_tallies_76 (n + 1) (nI c) x = _
    rw [f_MO_tallies_76, if_neg (nI_ge hc (by decide)), inb_n hc (by omega), gd_t, nI_clamp (by omega), e128, nI_add]
    by_cases z : fc N c = 0
    · rw [z, if_pos (show mI 0 < nI 0 by decide)]
      refine ⟨x, ⟨hF, fun g hg => ?_⟩, rfl⟩
      rw [sm, sm]
      unfold pw fw
      rw [if_neg (fun q => q.1 z), if_neg (fun q => q.1.1 z)]
      exact hT g hg
    · have hin := hf.2 z
      have hl := hd_le N (fc N c - 1)
      rw [mI_s z, if_neg (neg0 (by omega)), gd_t, inb_n (by omega) (by omega), gd_t, nI_clamp (by omega), hF 117 (by decide), hm _ (by omega), hdm_in hin, lt']
      generalize hg0 : hd N (fc N c - 1) = g0 at hl ⊢
      have hg20 : g0 < 20 := by omega
      rw [inb_n hg20 (by omega), gd_t, show nz (nI 3) = true from rfl, gd_t, gd_t, nI_clamp (by omega), irm3 c (by omega), pk_sub (by omega), (hT g0 hg20).1, nI_add, lt', gd_t, gd_t]
      have hp : ∀ g, pw N g c = if g = g0 then 3 - c % 3 else 0 := by
        intro g
        unfold pw
        by_cases e : g = g0
        · rw [if_pos ⟨z, hg0.trans e.symm⟩, if_pos e]
        · rw [if_neg (fun q => e (q.2.symm.trans hg0)), if_neg e]
      have hw9 : ∀ g, fw N g c = if g = g0 ∧ c % 3 = 0 then 1 else 0 := by
        intro g
        unfold fw
        by_cases e : g = g0 ∧ c % 3 = 0
        · rw [if_pos ⟨⟨z, hg0.trans e.1.symm⟩, e.2⟩, if_pos e]
        · rw [if_neg (fun q => e ⟨q.1.2.symm.trans hg0, q.2⟩), if_neg e]
      have put : ∀ t, t = (if c % 3 = 0 then 1 else 0) → ∃ y, (Fr [118, 119] σ y ∧ ∀ g, g < 20 → y 118 g = nI (sm (pw N g) (c + 1)) ∧ y 119 g = nI (sm (fw N g) (c + 1))) ∧ f_MO_tallies_135 (fun x1 σ => f_MO_tallies_76 n x1 σ) (nI c) (nI t) (up x 118 g0 (nI (sm (pw N g0) c + (3 - c % 3))) 119 g0) (nI g0) (up x 118 g0 (nI (sm (pw N g0) c + (3 - c % 3)))) = f_MO_tallies_76 n (nI (c + 1)) y := by
        intro t ht
        unfold f_MO_tallies_135
        rw [inb_n hg20 (by omega), gd_t, nI_clamp (by omega), up_n _ _ _ (by decide), (hT g0 hg20).2, nI_add, lt', nI_add]
        refine ⟨_, ⟨(hF.up _ _ (by decide)).up _ _ (by decide), fun g hg => ?_⟩, rfl⟩
        rw [up_n _ _ _ (by decide), up_s, up_s, up_n _ _ _ (by decide), sm, sm, hp, hw9]
        by_cases e : g = g0
        · rw [e, upd_s, upd_s, if_pos rfl, ht]
          refine ⟨rfl, ?_⟩
          by_cases e3 : c % 3 = 0
          · rw [if_pos e3, if_pos ⟨rfl, e3⟩]
          · rw [if_neg e3, if_neg (fun q => e3 q.2)]
        · rw [upd_n _ _ e, upd_n _ _ e, if_neg e, if_neg (fun q => e q.1)]
          exact hT g hg
      by_cases e3 : c % 3 = 0
      · rw [if_pos (by rw [e3])]
        exact put 1 (by rw [if_pos e3])
      · rw [if_neg (fun q => e3 ((nI_eq (by omega) (by decide)).mp q))]
        exact put 0 (by rw [if_neg e3])
  · rintro m ⟨x, ⟨hF, hT⟩, heq⟩
    refine ⟨x, heq.trans ?_, hF, hT⟩
    show f_MO_tallies_76 (m + 1) (nI 36) x = _
    rw [f_MO_tallies_76, if_pos (Int32.le_refl _)]
theorem m_tallies (h : MR σ N) : ∃ x, f_MO_tallies σ = some (0, x) ∧ Fr [112, 117, 118, 119, 120, 128, 129, 130] σ x ∧ (∀ i, i ≠ 23 → x 112 i = σ 112 i) ∧ TM N x := by
  unfold f_MO_tallies
  obtain ⟨σ1, a1, a2, a3, a4, a5, a6⟩ := m_heads h
  have hm1 : HM σ1 N := a3
  rw [a1, bd_s]
  obtain ⟨σ2, b1, b2, b3⟩ := m_counts (h.fr a2 (by decide)) hm1
  rw [b1, bd_s]
  have hF2 : Fr [112, 117, 118, 119, 120, 128, 129, 130] σ σ2 := (a2.mono (by decide)).tr (b2.mono (by decide))
  have hm2 := hm1.fr b2 (by decide)
  refine Exists.elim (lpI (fun n k (x : Sg) => f_MO_tallies_10 n (nI k) x) 20 (fun k x => Fr [118, 119, 120] σ2 x ∧ ∀ g, g < k → x 118 g = nI 0 ∧ x 119 g = nI 0 ∧ x 120 g = nI (if isHd N g = true then sr N g else 0)) ?_ 0 FU σ2 (Nat.zero_le _) (by decide) ⟨Fr.rf _ _, fun g hg => absurd hg (Nat.not_lt_zero _)⟩) ?_
  · intro n k x hk hJ
    obtain ⟨hF, hT⟩ := hJ
    show ∃ y, _ ∧ f_MO_tallies_10 (n + 1) (nI k) x = _
    rw [f_MO_tallies_10, if_neg (nI_ge hk (by decide)), inb_n hk (by omega), gd_t, nI_clamp (by omega), lt', gd_t, lt']
    have hF3 : Fr [118, 119, 120] σ2 (up (up x 118 k (nI 0)) 119 k (nI 0)) := (hF.up _ _ (by decide)).up _ _ (by decide)
    have hmx := hm2.fr hF3 (by decide)
    have hrx := (h.fr hF2 (by decide)).fr hF3 (by decide)
    rw [m_isHead hmx hk, bd_s]
    have put : ∀ t, t = (if isHd N k = true then sr N k else 0) → ∃ y, (Fr [118, 119, 120] σ2 y ∧ ∀ g, g < k + 1 → y 118 g = nI 0 ∧ y 119 g = nI 0 ∧ y 120 g = nI (if isHd N g = true then sr N g else 0)) ∧ f_MO_tallies_67 (fun x1 σ => f_MO_tallies_10 n x1 σ) (nI k) (nI t) (nI k) (up (up x 118 k (nI 0)) 119 k (nI 0)) = f_MO_tallies_10 n (nI (k + 1)) y := by
      intro t ht
      unfold f_MO_tallies_67
      rw [inb_n hk (by omega), gd_t, nI_clamp (by omega), lt', nI_add]
      refine ⟨_, ⟨hF3.up _ _ (by decide), fun g hg => ?_⟩, rfl⟩
      rw [up_n _ _ _ (by decide), up_n _ _ _ (by decide), up_s, up_n _ _ _ (by decide), up_s, up_n _ _ _ (by decide), up_s, up_n _ _ _ (by decide), up_n _ _ _ (by decide)]
      by_cases e : g = k
      · rw [e, upd_s, upd_s, upd_s, ht]
        exact ⟨rfl, rfl, rfl⟩
      · rw [upd_n _ _ e, upd_n _ _ e, upd_n _ _ e]
        exact hT g (by omega)
    cases q : isHd N k
    · rw [if_pos (by decide)]
      exact put 0 (by rw [q]; rfl)
    · rw [if_neg (by decide), show (nI 0 : Int32) = nI 0 from rfl, m_rank hrx hmx (by decide) hk, bd_s, m_rank hrx hmx (by decide) hk, bd_s, m_rank hrx hmx (by decide) hk, bd_s, nI_add, nI_add]
      exact put _ (by rw [q, if_pos rfl]; show rk N 0 k + rk N 1 k + rk N 2 k = 0 + rk N 0 k + rk N 1 k + rk N 2 k; omega)
  · rintro m ⟨x, ⟨hF, hT⟩, heq⟩
    obtain ⟨y, k1, k2, k3⟩ := m_tal_sum ((h.fr hF2 (by decide)).fr hF (by decide)) (hm2.fr hF (by decide)) (fun c hc => by rw [hF 128 (by decide)]; exact b3 c hc) (fun g hg => ⟨(hT g hg).1, (hT g hg).2.1⟩)
    have e112 : y 112 = σ1 112 := by rw [k2 112 (by decide), hF 112 (by decide), b2 112 (by decide)]
    refine ⟨y, heq.trans ?_, (hF2.tr (hF.mono (by decide))).tr (k2.mono (by decide)), fun i hi => by rw [e112]; exact a5 i hi, (hm2.fr hF (by decide)).fr k2 (by decide), by rw [e112]; exact a4, ((a6.fr b2 (by decide)).fr hF (by decide)).fr k2 (by decide), fun c hc => by rw [k2 128 (by decide), hF 128 (by decide)]; exact b3 c hc, fun g hg => ⟨(k3 g hg).1, (k3 g hg).2, by rw [k2 120 (by decide)]; exact (hT g hg).2.2⟩⟩
    show f_MO_tallies_10 (m + 1) (nI 20) x = _
    rw [f_MO_tallies_10, if_pos (Int32.le_refl _), k1]
end TL
