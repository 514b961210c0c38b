section CNT2
theorem k13 {k : Nat} (h : k < 13) : k = 0 ∨ k = 1 ∨ k = 2 ∨ k = 3 ∨ k = 4 ∨ k = 5 ∨ k = 6 ∨ k = 7 ∨ k = 8 ∨ k = 9 ∨ k = 10 ∨ k = 11 ∨ k = 12 := by omega
theorem ovf_4 (N : Rw) : sm (fun k => if isHd N k = true then ovf N 4 k else 0) 20 = 0 := (sm_out (m := 0) (Nat.zero_le 20) (fun c _ hc => by
  by_cases q : isHd N c = true
  · rw [if_pos q]; rfl
  · rw [if_neg q])).trans rfl
theorem op_count (x1 : Int32) : Ok2 (f_CT_count x1) (f_MO_count x1) := Ok2.mk (fun A hA => by
  show One _ _ A
  have hng := ng_le A.N
  have c48 : ∀ σ, CI A σ → ∃ y, Fr QC σ y ∧ WC A.N y ∧ QS y A.N ∧ CI A y ∧ f_CT_count_48 x1 σ = if x1 = nI 0 then bd (f_ST_captionsIn y) fun r σ => some (r, σ) else if x1 = nI 1 then bd (f_ST_captionsSoFar y) fun r σ => some (r, σ) else if x1 = nI 2 then bd (f_GR_number y) fun r σ => some (r, σ) else if x1 = nI 3 then bd (f_ST_linksInAll y) fun r σ => some (r, σ) else if x1 = nI 4 then bd (f_CO_ballotsThatCount y) fun r σ => some (r, σ) else if x1 = nI 5 then bd (f_CO_pointsInAll y) fun r σ => some (r, σ) else if x1 = nI 6 then bd (f_SH_inAll y) fun r σ => some (r, σ) else if x1 = nI 7 then some (-2, y) else if x1 = nI 8 then some (-2, y) else if x1 = nI 9 then some (-2, y) else if x1 = nI 10 then bd (f_OR_tiedGroups y) fun r σ => some (r, σ) else if x1 = nI 11 then bd (f_HI_size y) fun r σ => some (r, σ) else if x1 = nI 12 then bd (f_DR_length y) fun r σ => some (r, σ) else some (-2, y) := by
    intro σ h
    obtain ⟨y, y1, y2, y3⟩ := c_tally hA h
    exact ⟨y, y2, y3, (h.qs hA).fr y2 (by decide), h.fr hA y2 (by decide), by unfold f_CT_count_48; rw [y1, bd_s]⟩
  rcases i32c x1 with n1 | ⟨k, hk, rfl⟩
  · have no : ∀ k, k < 100 → ¬ x1 = nI k := fun k hk w => by rw [w] at n1; exact neg0 (by omega) n1
    refine One.q hA (-2) (fun σ h => ?_) (fun σ h => ⟨σ, ?_, Fr.rf _ _, fun _ _ => rfl⟩)
    · obtain ⟨y, y1, y2, y3, y4, y5⟩ := c48 σ h
      refine ⟨y, ?_, y1⟩
      unfold f_CT_count f_CT_count_24
      rw [if_pos (ltz n1 (by decide)), if_pos (ltz n1 (by decide)), y5, if_neg (no 0 (by decide)), if_neg (no 1 (by decide)), if_neg (no 2 (by decide)), if_neg (no 3 (by decide)), if_neg (no 4 (by decide)), if_neg (no 5 (by decide)), if_neg (no 6 (by decide)), if_neg (no 7 (by decide)), if_neg (no 8 (by decide)), if_neg (no 9 (by decide)), if_neg (no 10 (by decide)), if_neg (no 11 (by decide)), if_neg (no 12 (by decide))]
    · unfold f_MO_count
      rw [m_inNeg σ (by decide) n1, bd_s, bI_f, if_pos rfl, m_inNeg σ (by decide) n1, bd_s, bI_f, if_pos rfl]
  by_cases a1 : 21 ≤ k ∧ k ≤ 25
  · obtain ⟨p, hp, hp5⟩ : ∃ p, k = p + 21 ∧ p < 5 := ⟨k - 21, by omega, by omega⟩
    subst hp
    refine One.same hA (nI (prz A.N p)) (fun σ h => ?_) (fun σ h => ?_)
    · unfold f_CT_count f_CT_count_24
      rw [if_neg (fun w => by have := (nI_ltI hk (by decide)).mp w; omega), if_pos ((nI_ltI (by decide) hk).mpr (by omega)), if_neg (fun w => by have := (nI_ltI hk (by decide)).mp w; omega), if_neg (fun w => by have := (nI_ltI (by decide) hk).mp w; omega), show nI (p + 21) - nI 20 = nI (p + 1) by rw [nI_z, nI_z 20, zI_sub, nI_z (p + 1)]; congr 1; omega, ci_prz hA h hp5, bd_s]
    · unfold f_MO_count
      rw [m_inN σ (p + 21) 21 25 hk (by decide) (by decide), decide_eq_true a1.1, decide_eq_true a1.2, bd_s, if_neg (by decide), nI_add, show nI (4 + (p + 21)) - nI 21 = nI (4 + p) by rw [nI_z, nI_z 21, zI_sub, nI_z (4 + p)]; congr 1; omega, inb_n (by omega) (by omega), gd_t, nI_clamp (by omega), h.1 _ (by omega), (hA.1.2.2.2.2.2.2.2.2.2.2.2.2 p hp5).1]
  have m1 : ∀ σ, f_MO_in (nI k) (nI 21) (nI 25) σ = some (bI false, σ) := by
    intro σ
    rw [m_inN σ k 21 25 hk (by decide) (by decide)]
    by_cases w : 21 ≤ k
    · rw [decide_eq_false (p := k ≤ 25) (fun u => a1 ⟨w, u⟩), Bool.and_false]
    · rw [decide_eq_false w]; rfl
  by_cases a2 : 7 ≤ k ∧ k ≤ 9
  · obtain ⟨p, hp, hp3⟩ : ∃ p, k = p + 7 ∧ p < 3 := ⟨k - 7, by omega, by omega⟩
    subst hp
    refine One.same hA (nI (stt A.N p)) (fun σ h => ?_) (fun σ h => ?_)
    · unfold f_CT_count
      rw [if_neg (fun w => by have := (nI_ltI hk (by decide)).mp w; omega), if_neg (fun w => by have := (nI_ltI (by decide) hk).mp w; omega), show nI (p + 7) - nI 7 = nI p by rw [nI_z, nI_z 7, zI_sub, nI_z p]; congr 1; omega, r_setting (h.qs hA) hp3, bd_s]
    · unfold f_MO_count
      rw [m1 σ, bd_s, bI_f, if_pos rfl, m_inN σ (p + 7) 0 12 hk (by decide) (by decide), decide_eq_true (Nat.zero_le _), decide_eq_true (show p + 7 ≤ 12 by omega), bd_s, if_neg (by decide), if_neg (fun w => by have := (nI_ltI hk (by decide)).mp w; omega), if_neg (nI_ne hk (by decide) (by omega)), m_inN σ (p + 7) 7 9 hk (by decide) (by decide), decide_eq_true a2.1, decide_eq_true a2.2, bd_s, if_neg (by decide), nI_add, show nI (1 + (p + 7)) - nI 7 = nI (1 + p) by rw [nI_z, nI_z 7, zI_sub, nI_z (1 + p)]; congr 1; omega, inb_n (by omega) (by omega), gd_t, nI_clamp (by omega), h.1 _ (by omega), hA.1.2.2.2.2.2.2.2.2.2.2.1 p hp3]
  have cc : ∀ σ, f_CT_count (nI k) σ = f_CT_count_48 (nI k) σ := by
    intro σ
    have e24 : f_CT_count_24 (nI k) σ = f_CT_count_48 (nI k) σ := by
      unfold f_CT_count_24
      by_cases w : k < 21
      · rw [if_pos ((nI_ltI hk (by decide)).mpr w)]
      · rw [if_neg (fun u => w ((nI_ltI hk (by decide)).mp u)), if_pos ((nI_ltI (by decide) hk).mpr (by omega))]
    unfold f_CT_count
    by_cases w : k < 7
    · rw [if_pos ((nI_ltI hk (by decide)).mpr w), e24]
    · rw [if_neg (fun u => w ((nI_ltI hk (by decide)).mp u)), if_pos ((nI_ltI (by decide) hk).mpr (by omega)), e24]
  by_cases a3 : k < 13
  case neg =>
    have no : ∀ j, j < 13 → ¬ nI k = nI j := fun j hj => nI_ne hk (by omega) (by omega)
    refine One.q hA (-2) (fun σ h => ?_) (fun σ h => ⟨σ, ?_, Fr.rf _ _, fun _ _ => rfl⟩)
    · obtain ⟨y, y1, y2, y3, y4, y5⟩ := c48 σ h
      exact ⟨y, by rw [cc, y5, if_neg (no 0 (by decide)), if_neg (no 1 (by decide)), if_neg (no 2 (by decide)), if_neg (no 3 (by decide)), if_neg (no 4 (by decide)), if_neg (no 5 (by decide)), if_neg (no 6 (by decide)), if_neg (no 7 (by decide)), if_neg (no 8 (by decide)), if_neg (no 9 (by decide)), if_neg (no 10 (by decide)), if_neg (no 11 (by decide)), if_neg (no 12 (by decide))], y1⟩
    · unfold f_MO_count
      rw [m1 σ, bd_s, bI_f, if_pos rfl, m_inN σ k 0 12 hk (by decide) (by decide), decide_eq_false (p := k ≤ 12) (by omega), Bool.and_false, bd_s, bI_f, if_pos rfl]
  have m2 : ∀ σ, f_MO_count (nI k) σ = if nI k < nI 2 then f_MO_count_46 (nI k) σ else if nI k = nI 3 then f_MO_count_46 (nI k) σ else if nI k ≤ nI 10 then bd (f_MO_works σ) fun r13 σ14 => if nI k = nI 2 then some (σ14 112 23, σ14) else bd (f_MO_over (nI k) σ14) fun r16 σ17 => some (r16, σ17) else if nI k = nI 11 then some (σ 112 4, σ) else some (σ 112 5, σ) := by
    intro σ
    unfold f_MO_count
    rw [m1 σ, bd_s, bI_f, if_pos rfl, m_inN σ k 0 12 hk (by decide) (by decide), decide_eq_true (Nat.zero_le _), decide_eq_true (show k ≤ 12 by omega), bd_s, if_neg (by decide), m_inN σ k 7 9 hk (by decide) (by decide), show (decide (7 ≤ k) && decide (k ≤ 9)) = false by
      by_cases w : 7 ≤ k
      · rw [decide_eq_false (p := k ≤ 9) (fun u => a2 ⟨w, u⟩), Bool.and_false]
      · rw [decide_eq_false w]; rfl, bd_s, bI_f, if_pos (show (nI 0 : Int32) = nI 0 from rfl)]
  have mo : ∀ σ, RI A σ → ∃ z, Fr QM σ z ∧ (∀ i, i ≠ 23 → z 112 i = σ 112 i) ∧ f_MO_works σ = some (0, z) ∧ z 112 23 = nI (ng A.N) ∧ f_MO_over (nI k) z = some (nI ((if k = 4 then cnt (fun v => !(decide (fc A.N (3 * v) = 0))) 12 else 0) + sm (fun j => if isHd A.N j = true then ovf A.N k j else 0) 20), z) := by
    intro σ h
    obtain ⟨z, z1, z2, z3, z4⟩ := m_worksQ hA h
    exact ⟨z, z2, z3, z1, z4.1.2.1, m_over ((h.mr hA).fr z2 (by decide)) z4 (by omega)⟩
  rcases k13 a3 with e | e | e | e | e | e | e | e | e | e | e | e | e
  · subst e
    refine One.q hA (nI (cnt (inn A.N) 20)) (fun σ h => ?_) (fun σ h => ⟨σ, ?_, Fr.rf _ _, fun _ _ => rfl⟩)
    · obtain ⟨y, y1, y2, y3, y4, y5⟩ := c48 σ h
      exact ⟨y, by rw [cc, y5, if_pos rfl, r_capsIn y3, bd_s], y1⟩
    · rw [m2 σ, if_pos (by decide)]
      unfold f_MO_count_46
      rw [if_pos rfl, m_there (h.mr hA), bd_s]
  · subst e
    refine One.q hA (nI (ev A.N)) (fun σ h => ?_) (fun σ h => ⟨σ, ?_, Fr.rf _ _, fun _ _ => rfl⟩)
    · obtain ⟨y, y1, y2, y3, y4, y5⟩ := c48 σ h
      exact ⟨y, by rw [cc, y5, if_neg (by decide), if_pos rfl, r_sofar y3, bd_s], y1⟩
    · rw [m2 σ, if_pos (by decide)]
      unfold f_MO_count_46
      rw [if_neg (by decide), if_pos rfl, inb_n (by decide) (by decide), gd_t, nI_clamp (by decide), m_ev (h.mr hA)]
  · subst e
    refine One.q hA (nI (ng A.N)) (fun σ h => ?_) (fun σ h => ?_)
    · obtain ⟨y, y1, y2, y3, y4, y5⟩ := c48 σ h
      exact ⟨y, by unfold f_GR_number at y5; rw [cc, y5, if_neg (by decide), if_neg (by decide), if_pos rfl, bd_s, y2.2.1], y1⟩
    · obtain ⟨z, z1, z2, z3, z4, z5⟩ := mo σ h
      exact ⟨z, by rw [m2 σ, if_neg (by decide), if_neg (by decide), if_pos (by decide), z3, bd_s, if_pos rfl, z4], z1, z2⟩
  · subst e
    refine One.q hA (nI (lks A.N)) (fun σ h => ?_) (fun σ h => ⟨σ, ?_, Fr.rf _ _, fun _ _ => rfl⟩)
    · obtain ⟨y, y1, y2, y3, y4, y5⟩ := c48 σ h
      exact ⟨y, by rw [cc, y5, if_neg (by decide), if_neg (by decide), if_neg (by decide), if_pos rfl, s_linksInAll y3, bd_s], y1⟩
    · rw [m2 σ, if_neg (by decide), if_pos rfl]
      unfold f_MO_count_46
      rw [if_neg (by decide), if_neg (by decide), m_allLinks (h.mr hA), bd_s]
  · subst e
    refine One.q hA (nI (cnt (fun v => !(decide (fc A.N (3 * v) = 0))) 12)) (fun σ h => ?_) (fun σ h => ?_)
    · obtain ⟨y, y1, y2, y3, y4, y5⟩ := c48 σ h
      exact ⟨y, by rw [cc, y5, if_neg (by decide), if_neg (by decide), if_neg (by decide), if_neg (by decide), if_pos rfl, s_ballotsCount hA.1 y2.2.2.1, bd_s], y1⟩
    · obtain ⟨z, z1, z2, z3, z4, z5⟩ := mo σ h
      exact ⟨z, by rw [m2 σ, if_neg (by decide), if_neg (by decide), if_pos (by decide), z3, bd_s, if_neg (by decide), z5, bd_s, ovf_4, if_pos rfl, Nat.add_zero], z1, z2⟩
  · subst e
    refine One.q hA (nI (sm (fun k => if isHd A.N k = true then pts A.N k else 0) 20)) (fun σ h => ?_) (fun σ h => ?_)
    · obtain ⟨y, y1, y2, y3, y4, y5⟩ := c48 σ h
      exact ⟨y, by rw [cc, y5, if_neg (by decide), if_neg (by decide), if_neg (by decide), if_neg (by decide), if_neg (by decide), if_pos rfl, s_pointsInAll hA.1 y2.2.2.1, bd_s], y1⟩
    · obtain ⟨z, z1, z2, z3, z4, z5⟩ := mo σ h
      exact ⟨z, by rw [m2 σ, if_neg (by decide), if_neg (by decide), if_pos (by decide), z3, bd_s, if_neg (by decide), z5, bd_s, if_neg (show ¬ 5 = 4 by decide), Nat.zero_add]; rfl, z1, z2⟩
  · subst e
    refine One.q hA (nI (sm (fun k => if isHd A.N k = true then ogr A.N k else 0) 20)) (fun σ h => ?_) (fun σ h => ?_)
    · obtain ⟨y, y1, y2, y3, y4, y5⟩ := c48 σ h
      exact ⟨y, by rw [cc, y5, if_neg (by decide), if_neg (by decide), if_neg (by decide), if_neg (by decide), if_neg (by decide), if_neg (by decide), if_pos rfl, s_inAll hA.1 y2.2.2.2.2.2.2, bd_s], y1⟩
    · obtain ⟨z, z1, z2, z3, z4, z5⟩ := mo σ h
      exact ⟨z, by rw [m2 σ, if_neg (by decide), if_neg (by decide), if_pos (by decide), z3, bd_s, if_neg (by decide), z5, bd_s, if_neg (show ¬ 6 = 4 by decide), Nat.zero_add]; rfl, z1, z2⟩
  · exact absurd ⟨by omega, by omega⟩ a2
  · exact absurd ⟨by omega, by omega⟩ a2
  · exact absurd ⟨by omega, by omega⟩ a2
  · subst e
    refine One.q hA (nI (sm (fun k => if isHd A.N k = true then tdd A.N k else 0) 20)) (fun σ h => ?_) (fun σ h => ?_)
    · obtain ⟨y, y1, y2, y3, y4, y5⟩ := c48 σ h
      exact ⟨y, by rw [cc, y5, if_neg (by decide), if_neg (by decide), if_neg (by decide), if_neg (by decide), if_neg (by decide), if_neg (by decide), if_neg (by decide), if_neg (by decide), if_neg (by decide), if_neg (by decide), if_pos rfl, s_tiedGroups y2.2.2.2.2.2.1, bd_s], y1⟩
    · obtain ⟨z, z1, z2, z3, z4, z5⟩ := mo σ h
      exact ⟨z, by rw [m2 σ, if_neg (by decide), if_neg (by decide), if_pos (by decide), z3, bd_s, if_neg (by decide), z5, bd_s, if_neg (show ¬ 10 = 4 by decide), Nat.zero_add]; rfl, z1, z2⟩
  · subst e
    refine One.q hA (nI A.n) (fun σ h => ?_) (fun σ h => ⟨σ, ?_, Fr.rf _ _, fun _ _ => rfl⟩)
    · obtain ⟨y, y1, y2, y3, y4, y5⟩ := c48 σ h
      exact ⟨y, by unfold f_HI_size at y5; rw [cc, y5, if_neg (by decide), if_neg (by decide), if_neg (by decide), if_neg (by decide), if_neg (by decide), if_neg (by decide), if_neg (by decide), if_neg (by decide), if_neg (by decide), if_neg (by decide), if_neg (by decide), if_pos rfl, bd_s, y4.2.1.1], y1⟩
    · rw [m2 σ, if_neg (by decide), if_neg (by decide), if_neg (by decide), if_pos rfl, h.2.1.1]
  · subst e
    refine One.q hA (nI A.d) (fun σ h => ?_) (fun σ h => ⟨σ, ?_, Fr.rf _ _, fun _ _ => rfl⟩)
    · obtain ⟨y, y1, y2, y3, y4, y5⟩ := c48 σ h
      exact ⟨y, by unfold f_DR_length at y5; rw [cc, y5, if_neg (by decide), if_neg (by decide), if_neg (by decide), if_neg (by decide), if_neg (by decide), if_neg (by decide), if_neg (by decide), if_neg (by decide), if_neg (by decide), if_neg (by decide), if_neg (by decide), if_neg (by decide), if_pos rfl, bd_s, y4.2.2.2.1], y1⟩
    · rw [m2 σ, if_neg (by decide), if_neg (by decide), if_neg (by decide), if_neg (by decide), h.2.2.2.1])
end CNT2
