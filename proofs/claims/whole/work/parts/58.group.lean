section GRP
theorem m_members {σ : Sg} {N : Rw} (h : MR σ N) (hm : HM σ N) {k : Nat} (hk : k < 20) : f_MO_members (nI k) σ = some (nI (mb N k 20), σ) := by
  have hE := h.2.1.2
  rw [← mb_ev h.2]
  unfold f_MO_members
  refine lpS (fun n i y => f_MO_members_4 n (nI k) (nI y) (nI i) σ) (ev N) (fun i => b2n (mem N k i)) (fun y => some (nI y, σ)) ?_ ?_ FU (by unfold FU; omega)
  · intro n i y hi hy
    show f_MO_members_4 (n + 1) (nI k) (nI y) (nI i) σ = _
    rw [f_MO_members_4, inb_n (by decide) (by decide), gd_t, nI_clamp (by decide), m_ev h, if_neg (nI_ge hi (by omega)), inb_n (by omega) (by omega), gd_t, nI_clamp (by omega), hm i (by omega), nI_add, lt', nI_add, lt', nI_add]
    cases q : mem N k i
    · rw [if_neg (fun w => by rw [(hdm_mem h.2 (by omega) hk).mp w] at q; cases q)]; rfl
    · rw [if_pos ((hdm_mem h.2 (by omega) hk).mpr q)]; rfl
  · intro n
    show f_MO_members_4 (n + 1) (nI k) _ (nI (ev N)) σ = _
    rw [f_MO_members_4, inb_n (by decide) (by decide), gd_t, nI_clamp (by decide), m_ev h, if_pos (Int32.le_refl _)]
theorem m_getsGroup {σ : Sg} {N : Rw} (h : MR σ N) (hm : HM σ N) (hs : ∀ c, c < 20 → σ 127 c = nI (ocp N c)) {k : Nat} (hk : isHd N k = true) : f_MO_getsGroup (nI k) σ = some (nI (ogr N k), σ) := by
  have hE := h.2.1.2
  have hk20 := hd_lt20 hk
  have e : sm (fun c => if mem N k c = true then ocp N c else 0) (ev N) = ogr N k := by
    rw [← ogr_sum hk]
    exact (sm_out hE (fun i h1 h2 => if_neg (fun w => by have := mem_ev h.2 w; omega))).symm
  rw [← e]
  unfold f_MO_getsGroup
  refine lpS (fun n i y => f_MO_getsGroup_4 n (nI k) (nI y) (nI i) σ) (ev N) (fun c => if mem N k c = true then ocp N c else 0) (fun y => some (nI y, σ)) ?_ ?_ FU (by unfold FU; omega)
  · intro n i y hi hy
    show f_MO_getsGroup_4 (n + 1) (nI k) (nI y) (nI i) σ = _
    rw [f_MO_getsGroup_4, inb_n (by decide) (by decide), gd_t, nI_clamp (by decide), m_ev h, if_neg (nI_ge hi (by omega)), inb_n (by omega) (by omega), gd_t, nI_clamp (by omega), hm i (by omega), gd_t, hs i (by omega), nI_add, lt', nI_add, lt', nI_add]
    cases q : mem N k i
    · rw [if_neg (fun w => by rw [(hdm_mem h.2 (by omega) hk20).mp w] at q; cases q), if_neg (by decide)]
    · rw [if_pos ((hdm_mem h.2 (by omega) hk20).mpr q), if_pos rfl]
  · intro n
    show f_MO_getsGroup_4 (n + 1) (nI k) _ (nI (ev N)) σ = _
    rw [f_MO_getsGroup_4, inb_n (by decide) (by decide), gd_t, nI_clamp (by decide), m_ev h, if_pos (Int32.le_refl _)]
theorem k7 {k : Nat} (h : k < 7) : k = 0 ∨ k = 1 ∨ k = 2 ∨ k = 3 ∨ k = 4 ∨ k = 5 ∨ k = 6 := by omega
theorem k8 {k : Nat} (h : k < 8) : k = 0 ∨ k = 1 ∨ k = 2 ∨ k = 3 ∨ k = 4 ∨ k = 5 ∨ k = 6 ∨ k = 7 := by omega
theorem op_group (x1 x2 : Int32) : Ok2 (f_CT_group x1 x2) (f_MO_group x1 x2) := Ok2.mk (fun A hA => by
  show One _ _ A
  cases q : inn A.N (plc 20 x1)
  · refine One.same hA (-1) (fun σ h => ?_) (fun σ h => ?_)
    · unfold f_CT_group; rw [r_isIn (h.qs hA), bd_s, q, bI_f, if_pos rfl]
    · unfold f_MO_group; rw [m_is (h.mr hA), bd_s, q, bI_f, if_pos rfl]
  obtain ⟨c, c1, c2, c3, c4⟩ := inn_arg hA.1 q
  subst c3
  have hh := hd_isHd hA.1 c4
  have h20 := hd_lt20 hh
  have cs : ∀ σ, CI A σ → ∃ y, Fr QC σ y ∧ WC A.N y ∧ f_CT_group (nI c) x2 σ = if x2 = nI 0 then bd (f_GR_sizeOf (nI (hd A.N c)) y) fun r σ => some (r, σ) else if x2 = nI 1 then bd (f_CO_pointsOf (nI (hd A.N c)) y) fun r σ => some (r, σ) else if x2 = nI 2 then bd (f_CO_firstsOf (nI (hd A.N c)) y) fun r σ => some (r, σ) else if x2 = nI 3 then bd (f_RA_sumOf (nI (hd A.N c)) y) fun r σ => some (r, σ) else if x2 = nI 4 then bd (f_CT_scoreOf (nI (hd A.N c)) y) fun r σ => some (nI 1000 + r, σ) else if x2 = nI 5 then bd (f_OR_placeOf (nI (hd A.N c)) y) fun r σ => some (r, σ) else if x2 = nI 6 then bd (f_SH_ofGroup (nI (hd A.N c)) y) fun r σ => some (r, σ) else if x2 = nI 7 then bd (f_RO_roundOf (nI (hd A.N c)) y) fun r σ => some (r, σ) else some (-2, y) := by
    intro σ h
    obtain ⟨y, y1, y2, y3⟩ := c_tally hA h
    refine ⟨y, y2, y3, ?_⟩
    unfold f_CT_group
    rw [r_isIn (h.qs hA), bd_s, q, if_neg (by decide), y1, bd_s, s_headN y3.1 c1, bd_s, hdc_in c4]
  by_cases q3 : plc 8 x2 < 8
  case neg =>
    have no : ∀ k, k < 8 → ¬ x2 = nI k := fun k hk w => q3 (by rw [w, plc_nI (by decide) hk]; exact hk)
    refine One.q hA (-2) (fun σ h => ?_) (fun σ h => ⟨σ, ?_, Fr.rf _ _, fun _ _ => rfl⟩)
    · obtain ⟨y, y1, y2, y3⟩ := cs σ h
      exact ⟨y, by rw [y3, if_neg (no 0 (by decide)), if_neg (no 1 (by decide)), if_neg (no 2 (by decide)), if_neg (no 3 (by decide)), if_neg (no 4 (by decide)), if_neg (no 5 (by decide)), if_neg (no 6 (by decide)), if_neg (no 7 (by decide))], y1⟩
    · unfold f_MO_group; rw [m_is (h.mr hA), bd_s, q, if_neg (by decide), m_inP σ x2 7 (by decide), bd_s, decide_eq_false q3, bI_f, if_pos rfl]
  obtain ⟨k, hk, e1⟩ := ix3 (by decide) q3
  subst e1
  have ms : ∀ σ, RI A σ → ∃ z, Fr QM σ z ∧ (∀ i, i ≠ 23 → z 112 i = σ 112 i) ∧ WM A.N z ∧ MR z A.N ∧ f_MO_group (nI c) (nI k) σ = if nI 4 ≤ nI k then (if nI k = nI 4 then bd (f_MO_tally (nI (hd A.N c)) z) fun r21 σ22 => some (nI 1000 + r21, σ22) else if nI k = nI 5 then some (nI (pla A.N (hd A.N c)), z) else if nI k = nI 6 then bd (f_MO_getsGroup (nI (hd A.N c)) z) fun r18 σ19 => some (r18, σ19) else if nI 0 ≤ z 121 (hd A.N c) then some (z 121 (hd A.N c), z) else some (-5, z)) else if nI k = nI 0 then bd (f_MO_members (nI (hd A.N c)) z) fun r29 σ30 => some (r29, σ30) else if nI k = nI 1 then some (z 118 (hd A.N c), z) else if nI k = nI 2 then some (z 119 (hd A.N c), z) else some (z 120 (hd A.N c), z) := by
    intro σ h
    obtain ⟨z, z1, z2, z3, z4⟩ := m_worksQ hA h
    refine ⟨z, z2, z3, z4, (h.mr hA).fr z2 (by decide), ?_⟩
    unfold f_MO_group
    rw [m_is (h.mr hA), bd_s, q, if_neg (by decide), m_inP σ _ 7 (by decide), bd_s, decide_eq_true q3, if_neg (by decide), z1, bd_s, inb_n c1 (by omega), gd_t, nI_clamp (by omega), z4.1.1 c c1, hdm_in c4, lt', inb_n h20 (by omega), gd_t, gd_t, gd_t, gd_t, gd_t, gd_t, nI_clamp (by omega), (z4.2.2.1 _ hh).1]
  have hw : ∀ {z}, WM A.N z → _ := fun {z} w => w.1.2.2.2.2 (hd A.N c) h20
  have ob := (lft_cnt A.N (ng A.N - 1) (by omega)).2 (hd A.N c)
  have hng := ng_le A.N
  rcases k8 hk with e | e | e | e | e | e | e | e
  · subst e
    refine One.q hA (nI (mb A.N (hd A.N c) 20)) (fun σ h => ?_) (fun σ h => ?_)
    · obtain ⟨y, y1, y2, y3⟩ := cs σ h
      exact ⟨y, by rw [y3, if_pos rfl, s_sizeOf hA.1 y2.1 h20, bd_s], y1⟩
    · obtain ⟨z, z1, z2, z3, z4, z5⟩ := ms σ h
      exact ⟨z, by rw [z5, if_neg (by decide), if_pos rfl, m_members z4 z3.1.1 h20, bd_s], z1, z2⟩
  · subst e
    refine One.q hA (nI (pts A.N (hd A.N c))) (fun σ h => ?_) (fun σ h => ?_)
    · obtain ⟨y, y1, y2, y3⟩ := cs σ h
      exact ⟨y, by unfold f_CO_pointsOf at y3; rw [y3, if_neg (by decide), if_pos rfl, s_at _ _ _ _ h20 (by decide), bd_s, bd_s, (y2.2.2.1.2 _ h20).1], y1⟩
    · obtain ⟨z, z1, z2, z3, z4, z5⟩ := ms σ h
      exact ⟨z, by rw [z5, if_neg (by decide), if_neg (by decide), if_pos rfl, (hw z3).1], z1, z2⟩
  · subst e
    refine One.q hA (nI (frs A.N (hd A.N c))) (fun σ h => ?_) (fun σ h => ?_)
    · obtain ⟨y, y1, y2, y3⟩ := cs σ h
      exact ⟨y, by unfold f_CO_firstsOf at y3; rw [y3, if_neg (by decide), if_neg (by decide), if_pos rfl, s_at _ _ _ _ h20 (by decide), bd_s, bd_s, (y2.2.2.1.2 _ h20).2], y1⟩
    · obtain ⟨z, z1, z2, z3, z4, z5⟩ := ms σ h
      exact ⟨z, by rw [z5, if_neg (by decide), if_neg (by decide), if_neg (by decide), if_pos rfl, (hw z3).2.1], z1, z2⟩
  · subst e
    refine One.q hA (nI (sr A.N (hd A.N c))) (fun σ h => ?_) (fun σ h => ?_)
    · obtain ⟨y, y1, y2, y3⟩ := cs σ h
      exact ⟨y, by rw [y3, if_neg (by decide), if_neg (by decide), if_neg (by decide), if_pos rfl, s_sumOf h20 (s := sr A.N (hd A.N c)) (by rw [y2.2.2.2.1.2.2 _ h20, if_pos hh]), bd_s], y1⟩
    · obtain ⟨z, z1, z2, z3, z4, z5⟩ := ms σ h
      exact ⟨z, by rw [z5, if_neg (by decide), if_neg (by decide), if_neg (by decide), if_neg (by decide), (hw z3).2.2, if_pos hh], z1, z2⟩
  · subst e
    refine One.q hA (nI 1000 + zI (sc A.N (hd A.N c))) (fun σ h => ?_) (fun σ h => ?_)
    · obtain ⟨y, y1, y2, y3⟩ := cs σ h
      exact ⟨y, by rw [y3, if_neg (by decide), if_neg (by decide), if_neg (by decide), if_neg (by decide), if_pos rfl, s_score h20 (y2.2.2.1.2 _ h20).1 (by rw [y2.2.2.2.1.2.2 _ h20, if_pos hh]), bd_s], y1⟩
    · obtain ⟨z, z1, z2, z3, z4, z5⟩ := ms σ h
      exact ⟨z, by rw [z5, if_pos (by decide), if_pos rfl, m_tallyOf z3.1 hh, bd_s], z1, z2⟩
  · subst e
    refine One.q hA (nI (pla A.N (hd A.N c))) (fun σ h => ?_) (fun σ h => ?_)
    · obtain ⟨y, y1, y2, y3⟩ := cs σ h
      exact ⟨y, by rw [y3, if_neg (by decide), if_neg (by decide), if_neg (by decide), if_neg (by decide), if_neg (by decide), if_pos rfl, s_placeOf y2.2.2.2.2.2.1 hh, bd_s], y1⟩
    · obtain ⟨z, z1, z2, z3, z4, z5⟩ := ms σ h
      exact ⟨z, by rw [z5, if_pos (by decide), if_neg (by decide), if_pos rfl], z1, z2⟩
  · subst e
    refine One.q hA (nI (ogr A.N (hd A.N c))) (fun σ h => ?_) (fun σ h => ?_)
    · obtain ⟨y, y1, y2, y3⟩ := cs σ h
      exact ⟨y, by unfold f_SH_ofGroup at y3; rw [y3, if_neg (by decide), if_neg (by decide), if_neg (by decide), if_neg (by decide), if_neg (by decide), if_neg (by decide), if_pos rfl, s_at _ _ _ _ h20 (by decide), bd_s, bd_s, y2.2.2.2.2.2.2.1 _ h20], y1⟩
    · obtain ⟨z, z1, z2, z3, z4, z5⟩ := ms σ h
      exact ⟨z, by rw [z5, if_pos (by decide), if_neg (by decide), if_neg (by decide), if_pos rfl, m_getsGroup z4 z3.1.1 z3.2.2.2 hh, bd_s], z1, z2⟩
  · subst e
    refine One.q hA (wI (os A.N (ng A.N - 1) (hd A.N c))) (fun σ h => ?_) (fun σ h => ?_)
    · obtain ⟨y, y1, y2, y3⟩ := cs σ h
      exact ⟨y, by unfold f_RO_roundOf at y3; rw [y3, if_neg (by decide), if_neg (by decide), if_neg (by decide), if_neg (by decide), if_neg (by decide), if_neg (by decide), if_neg (by decide), if_pos rfl, s_at _ _ _ _ h20 (by decide), bd_s, bd_s, y2.2.2.2.2.1.2.2 _ h20], y1⟩
    · obtain ⟨z, z1, z2, z3, z4, z5⟩ := ms σ h
      refine ⟨z, ?_, z1, z2⟩
      rw [z5, if_pos (by decide), if_neg (by decide), if_neg (by decide), if_neg (by decide), (z3.2.1.2 _ h20).2]
      by_cases w : os A.N (ng A.N - 1) (hd A.N c) = 0
      · rw [if_neg (fun s => (mI_nn (by omega)).mp s w), w]; rfl
      · rw [if_pos ((mI_nn (by omega)).mpr w), mI_s w, wI_s w])
end GRP
