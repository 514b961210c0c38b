section CAP
theorem m_links {σ : Sg} {N : Rw} (h : MR σ N) {c : Nat} (hc : c < 20) : f_MO_links (nI c) σ = some (nI (cnt (fun b => inn N b && lkd N c b) 20), σ) := by
  have hE := h.2.1.2
  rw [← cnt_in h.2]
  unfold f_MO_links
  refine lpS (fun n i y => f_MO_links_4 n (nI c) (nI y) (nI i) σ) (ev N) (fun b => b2n (inn N b && lkd N c b)) (fun y => some (nI y, σ)) ?_ ?_ FU (by unfold FU; omega)
  · intro n i y hi hy
    show f_MO_links_4 (n + 1) (nI c) (nI y) (nI i) σ = _
    rw [f_MO_links_4, inb_n (by decide) (by decide), gd_t, nI_clamp (by decide), m_ev h, if_neg (nI_ge hi (by omega)), m_isN h (by omega), bd_s, nI_add, lt', nI_add]
    cases q : inn N i
    · rw [if_pos (by decide)]; rfl
    · rw [if_neg (by decide), m_linked h hc (by omega), bd_s, lt', lt', nI_add y 1]
      cases q2 : lkd N c i
      · rw [if_pos (by decide)]; rfl
      · rw [if_neg (by decide)]; rfl
  · intro n
    show f_MO_links_4 (n + 1) (nI c) _ (nI (ev N)) σ = _
    rw [f_MO_links_4, inb_n (by decide) (by decide), gd_t, nI_clamp (by decide), m_ev h, if_pos (Int32.le_refl _)]
theorem cnt3 (p : Nat → Bool) : ∀ n, cnt p (3 * n) = sm (fun v => b2n (p (3 * v)) + b2n (p (3 * v + 1)) + b2n (p (3 * v + 2))) n := by
  intro n
  induction n with
  | zero => rfl
  | succ n ih =>
    rw [show 3 * (n + 1) = 3 * n + 1 + 1 + 1 by omega, cnt_s, cnt_s, cnt_s, ih, sm]
    omega
/-- wishes for a caption -/
def wfc (N : Rw) (c i : Nat) : Bool := decide (wsc N i = c + 1)
theorem m_stands {σ : Sg} {N : Rw} (h : MR σ N) {c : Nat} (hc : c < 20) : f_MO_stands (nI c) σ = some (nI (cnt (wfc N c) 36), σ) := by
  have hE := h.2.1.2
  unfold f_MO_stands
  refine lpS (fun n i y => f_MO_stands_4 n (nI c) (nI y) (nI i) σ) 36 (fun i => b2n (wfc N c i)) (fun y => some (nI y, σ)) ?_ ?_ FU (by decide)
  · intro n i y hi hy
    have hw := h.2.2.2.2.2.2.2.2.1 i hi
    show f_MO_stands_4 (n + 1) (nI c) (nI y) (nI i) σ = _
    rw [f_MO_stands_4, if_neg (nI_ge hi (by decide)), nI_add, inb_n (by omega) (by omega), gd_t, nI_clamp (by omega), h.1 _ (by omega), hw.1, nI_add, nI_add, lt', nI_add, lt', nI_add]
    unfold wfc
    by_cases q : wsc N i = c + 1
    · rw [if_pos (by rw [q]), decide_eq_true q]; rfl
    · rw [if_neg (nI_ne (by omega) (by omega) q), decide_eq_false q]; rfl
  · intro n
    show f_MO_stands_4 (n + 1) (nI c) _ (nI 36) σ = _
    rw [f_MO_stands_4, if_pos (Int32.le_refl _)]
theorem s_ballotsWith {σ : Sg} {N : Rw} (h : QS σ N) {c : Nat} (hc : c < 20) : f_ST_ballotsWith (nI c) σ = some (nI (cnt (wfc N c) 36), σ) := by
  have hE := h.2.1.1.2
  have hd := h.2.1.2.2.2.2.2.2.2.2.1
  rw [show (36 : Nat) = 3 * 12 from rfl, cnt3]
  unfold f_ST_ballotsWith
  refine lpS (fun n i y => f_ST_ballotsWith_4 n (nI c) (nI y) (nI i) σ) 12 (fun v => b2n (wfc N c (3 * v)) + b2n (wfc N c (3 * v + 1)) + b2n (wfc N c (3 * v + 2))) (fun y => some (nI y, σ)) ?_ ?_ FU (by decide)
  · intro n i y hi hy
    have w0 := (h.2.1.2.2.2.2.2.2.2.1 (3 * i) (by omega)).2
    have w1 := (h.2.1.2.2.2.2.2.2.2.1 (3 * i + 1) (by omega)).2
    have w2 := (h.2.1.2.2.2.2.2.2.2.1 (3 * i + 2) (by omega)).2
    have d1 := hd i 0 1 hi (by decide) (by decide)
    have d2 := hd i 0 2 hi (by decide) (by decide)
    have d3 := hd i 1 2 hi (by decide) (by decide)
    rw [Nat.add_zero] at d1 d2
    show f_ST_ballotsWith_4 (n + 1) (nI c) (nI y) (nI i) σ = _
    rw [f_ST_ballotsWith_4, if_neg (nI_ge hi (by decide)), r_wish h hi (by decide), bd_s, nI_add, nI_add, Nat.add_zero]
    unfold wfc
    by_cases q0 : wsc N (3 * i) = c + 1
    · rw [if_pos ((wI_iff (by omega) hc).mpr q0), decide_eq_true q0, decide_eq_false (fun w => d1 (by omega) (by omega)), decide_eq_false (fun w => d2 (by omega) (by omega))]; rfl
    · rw [if_neg (fun w => q0 ((wI_iff (by omega) hc).mp w)), r_wish h hi (by decide), bd_s, decide_eq_false q0]
      by_cases q1 : wsc N (3 * i + 1) = c + 1
      · rw [if_pos ((wI_iff (by omega) hc).mpr q1), decide_eq_true q1, decide_eq_false (fun w => d3 (by omega) (by omega))]; rfl
      · rw [if_neg (fun w => q1 ((wI_iff (by omega) hc).mp w)), r_wish h hi (by decide), bd_s, decide_eq_false q1]
        by_cases q2 : wsc N (3 * i + 2) = c + 1
        · rw [if_pos ((wI_iff (by omega) hc).mpr q2), decide_eq_true q2]; rfl
        · rw [if_neg (fun w => q2 ((wI_iff (by omega) hc).mp w)), decide_eq_false q2]; rfl
  · intro n
    show f_ST_ballotsWith_4 (n + 1) (nI c) _ (nI 12) σ = _
    rw [f_ST_ballotsWith_4, if_pos (Int32.le_refl _)]
theorem op_caption (x1 x2 : Int32) : Ok2 (f_CT_caption x1 x2) (f_MO_caption x1 x2) := Ok2.mk (fun A hA => by
  show One _ _ A
  cases q : inn A.N (plc 20 x1)
  · refine One.same hA (-1) (fun σ h => ?_) (fun σ h => ?_)
    · unfold f_CT_caption; rw [r_isIn (h.qs hA), bd_s, q, bI_f, if_pos rfl]
    · unfold f_MO_caption; rw [m_is (h.mr hA), bd_s, q, bI_f, if_pos rfl]
  obtain ⟨c, c1, c2, c3, c4⟩ := inn_arg hA.1 q
  subst c3
  have hE := hA.1.1.2
  have cs : ∀ σ, CI A σ → f_CT_caption (nI c) x2 σ = if x2 = nI 0 then bd (f_ST_authorOf (nI c) σ) fun r σ => some (r, σ) else if x2 = nI 1 then bd (f_GR_find σ) fun r8 σ9 => bd (f_GR_headOf (nI c) σ9) fun r σ => some (r, σ) else if x2 = nI 2 then bd (f_ST_lengthOf (nI c) σ) fun r σ => some (r, σ) else if x2 = nI 3 then bd (f_ST_coreLengthOf (nI c) σ) fun r σ => some (r, σ) else if x2 = nI 4 then bd (f_ST_linksInContest (nI c) σ) fun r σ => some (r, σ) else if x2 = nI 5 then bd (f_CT_tally σ) fun r22 σ23 => bd (f_SH_ofCaption (nI c) σ23) fun r σ => some (r, σ) else if x2 = nI 6 then bd (f_ST_ballotsWith (nI c) σ) fun r σ => some (r, σ) else some (-2, σ) := by
    intro σ h
    unfold f_CT_caption
    rw [r_isIn (h.qs hA), bd_s, q, if_neg (by decide)]
  by_cases q3 : plc 7 x2 < 7
  case neg =>
    have no : ∀ k, k < 7 → ¬ x2 = nI k := fun k hk w => q3 (by rw [w, plc_nI (by decide) hk]; exact hk)
    refine One.same hA (-2) (fun σ h => ?_) (fun σ h => ?_)
    · rw [cs σ h, if_neg (no 0 (by decide)), if_neg (no 1 (by decide)), if_neg (no 2 (by decide)), if_neg (no 3 (by decide)), if_neg (no 4 (by decide)), if_neg (no 5 (by decide)), if_neg (no 6 (by decide))]
    · unfold f_MO_caption; rw [m_is (h.mr hA), bd_s, q, if_neg (by decide), m_inP σ x2 6 (by decide), bd_s, decide_eq_false q3, bI_f, if_pos rfl]
  obtain ⟨k, hk, e1⟩ := ix3 (by decide) q3
  subst e1
  have ms : ∀ σ, RI A σ → f_MO_caption (nI c) (nI k) σ = if nI k = nI 0 then f_MO_caption_32 (nI c) (nI k) σ else if nI k = nI 2 then f_MO_caption_32 (nI c) (nI k) σ else if nI k = nI 3 then f_MO_caption_61 (nI c) (nI k) σ else if nI k = nI 4 then f_MO_caption_61 (nI c) (nI k) σ else bd (f_MO_works σ) fun r11 σ12 => if nI k = nI 1 then gd (inb (nI c) 20) <| some (σ12 117 (nI c).toNatClampNeg, σ12) else if nI k = nI 5 then gd (inb (nI c) 20) <| some (σ12 127 (nI c).toNatClampNeg, σ12) else bd (f_MO_stands (nI c) σ12) fun r15 σ16 => some (r15, σ16) := by
    intro σ h
    unfold f_MO_caption
    rw [m_is (h.mr hA), bd_s, q, if_neg (by decide), m_inP σ _ 6 (by decide), bd_s, decide_eq_true q3, if_neg (by decide)]
  have ms47 : ∀ σ t, RI A σ → t + c < 1385 → f_MO_caption_47 (nI c) (nI t) σ = some (A.N (t + c), σ) := by
    intro σ t h ht
    unfold f_MO_caption_47
    rw [nI_add, inb_n ht (by omega), gd_t, nI_clamp (by omega), h.1 _ ht]
  have ms61 : ∀ σ, RI A σ → ∃ z, Fr QM σ z ∧ (∀ i, i ≠ 23 → z 112 i = σ 112 i) ∧ CoreOK z A.N ∧ MR z A.N ∧ f_MO_takesCores σ = some (0, z) := by
    intro σ h
    obtain ⟨y, y1, y2, y3⟩ := m_takes (h.mr hA)
    exact ⟨y, y2.mono (by decide), fun i _ => by rw [y2.at' 112 (by decide)], y3, (h.mr hA).fr y2 (by decide), y1⟩
  rcases k7 hk with e | e | e | e | e | e | e
  · subst e
    refine One.same hA (A.N (9 + c)) (fun σ h => ?_) (fun σ h => ?_)
    · rw [cs σ h, if_pos rfl, r_author (h.qs hA) c1, bd_s]
    · rw [ms σ h, if_pos rfl]
      unfold f_MO_caption_32
      rw [if_pos rfl, ms47 σ 9 h (by omega)]
  · subst e
    refine One.q hA (nI (hd A.N c)) (fun σ h => ?_) (fun σ h => ?_)
    · obtain ⟨a, a1, a2, a3, a4⟩ := g_find (h.qs hA)
      exact ⟨a, by rw [cs σ h, if_neg (by decide), if_pos rfl, a1, bd_s, s_headN a3 c1, bd_s, hdc_in c4], a2.mono (by decide)⟩
    · obtain ⟨z, z1, z2, z3, z4⟩ := m_worksQ hA h
      exact ⟨z, by rw [ms σ h, if_neg (by decide), if_neg (by decide), if_neg (by decide), if_neg (by decide), z1, bd_s, if_pos rfl, inb_n c1 (by omega), gd_t, nI_clamp (by omega), z4.1.1 c c1, hdm_in c4], z2, z3⟩
  · subst e
    refine One.same hA (nI (lng A.N c)) (fun σ h => ?_) (fun σ h => ?_)
    · rw [cs σ h, if_neg (by decide), if_neg (by decide), if_pos rfl, r_length (h.qs hA) c2, bd_s]
    · rw [ms σ h, if_neg (by decide), if_pos rfl]
      unfold f_MO_caption_32
      rw [if_neg (by decide), ms47 σ 69 h (by omega), (hA.1.2.2.2.1 c c2).1]
  · subst e
    refine One.q hA (nI (cln A.N c)) (fun σ h => ⟨σ, ?_, Fr.rf _ _⟩) (fun σ h => ?_)
    · rw [cs σ h, if_neg (by decide), if_neg (by decide), if_neg (by decide), if_pos rfl, r_corelen (h.qs hA) c2, bd_s]
    · obtain ⟨z, z1, z2, z3, z4, z5⟩ := ms61 σ h
      refine ⟨z, ?_, z1, z2⟩
      rw [ms σ h, if_neg (by decide), if_neg (by decide), if_pos rfl]
      unfold f_MO_caption_61
      rw [z5, bd_s, if_pos rfl, inb_n c1 (by omega), gd_t, nI_clamp (by omega), z3.1 c c2]
  · subst e
    refine One.q hA (nI (cnt (fun b => inn A.N b && lkd A.N c b) 20)) (fun σ h => ⟨σ, ?_, Fr.rf _ _⟩) (fun σ h => ?_)
    · rw [cs σ h, if_neg (by decide), if_neg (by decide), if_neg (by decide), if_neg (by decide), if_pos rfl, r_linksIn (h.qs hA) c1, bd_s]
    · obtain ⟨z, z1, z2, z3, z4, z5⟩ := ms61 σ h
      refine ⟨z, ?_, z1, z2⟩
      rw [ms σ h, if_neg (by decide), if_neg (by decide), if_neg (by decide), if_pos rfl]
      unfold f_MO_caption_61
      rw [z5, bd_s, if_neg (by decide), m_links z4 c1, bd_s]
  · subst e
    refine One.q hA (nI (ocp A.N c)) (fun σ h => ?_) (fun σ h => ?_)
    · obtain ⟨y, y1, y2, y3⟩ := c_tally hA h
      refine ⟨y, ?_, y2⟩
      rw [cs σ h, if_neg (by decide), if_neg (by decide), if_neg (by decide), if_neg (by decide), if_neg (by decide), if_pos rfl, y1, bd_s]
      unfold f_SH_ofCaption
      rw [s_at _ _ _ _ c1 (by decide), bd_s, bd_s, y3.2.2.2.2.2.2.2 c c1]
    · obtain ⟨z, z1, z2, z3, z4⟩ := m_worksQ hA h
      exact ⟨z, by rw [ms σ h, if_neg (by decide), if_neg (by decide), if_neg (by decide), if_neg (by decide), z1, bd_s, if_neg (by decide), if_pos rfl, inb_n c1 (by omega), gd_t, nI_clamp (by omega), z4.2.2.2 c c1], z2, z3⟩
  · subst e
    refine One.q hA (nI (cnt (wfc A.N c) 36)) (fun σ h => ⟨σ, ?_, Fr.rf _ _⟩) (fun σ h => ?_)
    · rw [cs σ h, if_neg (by decide), if_neg (by decide), if_neg (by decide), if_neg (by decide), if_neg (by decide), if_neg (by decide), if_pos rfl, s_ballotsWith (h.qs hA) c1, bd_s]
    · obtain ⟨z, z1, z2, z3, z4⟩ := m_worksQ hA h
      exact ⟨z, by rw [ms σ h, if_neg (by decide), if_neg (by decide), if_neg (by decide), if_neg (by decide), z1, bd_s, if_neg (by decide), if_neg (by decide), m_stands ((h.mr hA).fr z2 (by decide)) c1, bd_s], z2, z3⟩)
end CAP
