section ASK2
theorem ix3 {x : Int32} {n : Nat} (hn : n < 2147483648) (q : plc n x < n) : ∃ k, k < n ∧ x = nI k := ⟨plc n x, q, plc_lt hn q⟩
theorem nI_ne {a b : Nat} (ha : a < 2147483648) (hb : b < 2147483648) (h : a ≠ b) : ¬ nI a = nI b := fun w => h ((nI_eq ha hb).mp w)
theorem c_judges {A : Ab} {σ : Sg} (hA : OKA A) (h : CI A σ) : ∃ a b, f_GR_find σ = some (0, a) ∧ f_RA_fill a = some (0, b) ∧ Fr QC σ b ∧ HC b A.N ∧ RAll A.N b := by
  obtain ⟨a, a1, a2, a3, a4⟩ := g_find (h.qs hA)
  obtain ⟨b, b1, b2, b3⟩ := s_raFill ((h.qs hA).fr a2 (by decide)) a3
  exact ⟨a, b, a1, b1, (a2.mono (by decide)).tr (b2.mono (by decide)), HC.fr a3 b2 (by decide), b3⟩
theorem s_rankBy {σ : Sg} {N : Rw} (hr : RAll N σ) {j g : Nat} (hj : j < 3) (hg : isHd N g = true) : f_RA_rankBy (nI j) (nI g) σ = some (nI (rk N j g), σ) := by
  have g20 := hd_lt20 hg
  unfold f_RA_rankBy
  rw [nI_mul, nI_add, s_at _ _ _ _ (by omega) (by decide), bd_s, show j * 20 + g = 20 * j + g by omega, hr.2.1 j g hj g20 hg]
theorem op_judged (x1 x2 x3 : Int32) : Ok2 (f_CT_judged x1 x2 x3) (f_MO_judged x1 x2 x3) := Ok2.mk (fun A hA => by
  show One _ _ A
  by_cases q : plc 3 x1 < 3
  case neg =>
    refine One.same hA (-1) (fun σ h => ?_) (fun σ h => ?_)
    · unfold f_CT_judged; rw [s_idx _ _ _ (by decide), bd_s, decide_eq_false q, bI_f, if_pos rfl]
    · unfold f_MO_judged; rw [m_inP σ x1 2 (by decide), bd_s, decide_eq_false q, bI_f, if_pos rfl]
  obtain ⟨j, hj, e1⟩ := ix3 (by decide) q
  subst e1
  cases q2 : inn A.N (plc 20 x2)
  · refine One.same hA (-1) (fun σ h => ?_) (fun σ h => ?_)
    · unfold f_CT_judged; rw [s_idx _ _ _ (by decide), bd_s, decide_eq_true q, if_neg (by decide), r_isIn (h.qs hA), bd_s, q2, bI_f, if_pos rfl]
    · unfold f_MO_judged; rw [m_inP σ _ 2 (by decide), bd_s, decide_eq_true q, if_neg (by decide), m_is (h.mr hA), bd_s, q2, bI_f, if_pos rfl]
  obtain ⟨c, c1, c2, c3, c4⟩ := inn_arg hA.1 q2
  subst c3
  have hh := hd_isHd hA.1 c4
  have h20 := hd_lt20 hh
  have cj : ∀ σ, CI A σ → ∃ y, Fr QC σ y ∧ HC y A.N ∧ RAll A.N y ∧ QS y A.N ∧ f_CT_judged (nI j) (nI c) x3 σ = if x3 = nI 0 then bd (f_ST_pointsBy (nI j) (nI c) y) fun r14 σ15 => some (r14, σ15) else if x3 = nI 1 then bd (f_RA_pointsBy (nI j) (nI (hd A.N c)) y) fun r17 σ18 => some (r17, σ18) else if x3 = nI 2 then bd (f_RA_rankBy (nI j) (nI (hd A.N c)) y) fun r20 σ21 => some (r20, σ21) else some (-2, y) := by
    intro σ h
    obtain ⟨a, b, a1, b1, b2, b3, b4⟩ := c_judges hA h
    refine ⟨b, b2, b3, b4, (h.qs hA).fr b2 (by decide), ?_⟩
    unfold f_CT_judged
    rw [s_idx _ _ _ (by decide), bd_s, decide_eq_true q, if_neg (by decide), r_isIn (h.qs hA), bd_s, q2, if_neg (by decide), a1, bd_s, b1, bd_s, s_headN b3 c1, bd_s, hdc_in c4]
  have mj : ∀ σ, RI A σ → f_MO_judged (nI j) (nI c) x3 σ = bd (f_MO_in x3 (nI 0) (nI 2) σ) fun r7 σ8 => if r7 = nI 0 then some (-2, σ8) else gd (inb (nI (1325 + 20 * j + c)) 1385) <| lt' (σ8 113 (nI (1325 + 20 * j + c)).toNatClampNeg) fun v11 => if x3 = nI 0 then if v11 = nI 0 then some (-5, σ8) else some (v11 - nI 1, σ8) else bd (f_MO_heads σ8) fun r13 σ14 => if x3 = nI 1 then gd (inb (nI c) 20) <| bd (f_MO_most (nI j) (σ14 117 (nI c).toNatClampNeg) σ14) fun r20 σ21 => some (r20, σ21) else gd (inb (nI c) 20) <| bd (f_MO_rank (nI j) (σ14 117 (nI c).toNatClampNeg) σ14) fun r17 σ18 => some (r17, σ18) := by
    intro σ h
    unfold f_MO_judged
    rw [m_inP σ _ 2 (by decide), bd_s, decide_eq_true q, if_neg (by decide), m_is (h.mr hA), bd_s, q2, if_neg (by decide), nI_mul, nI_add, nI_add]
  by_cases q3 : plc 3 x3 < 3
  case neg =>
    have no : ∀ k, k < 3 → ¬ x3 = nI k := fun k hk w => q3 (by rw [w, plc_nI (by decide) hk]; exact hk)
    refine One.q hA (-2) (fun σ h => ?_) (fun σ h => ?_)
    · obtain ⟨y, y1, y2, y3, y4, y5⟩ := cj σ h
      exact ⟨y, by rw [y5, if_neg (no 0 (by decide)), if_neg (no 1 (by decide)), if_neg (no 2 (by decide))], y1⟩
    · exact ⟨σ, by rw [mj σ h, m_inP σ _ 2 (by decide), bd_s, decide_eq_false q3, bI_f, if_pos rfl], Fr.rf _ _, fun _ _ => rfl⟩
  obtain ⟨k, hk, e3⟩ := ix3 (by decide) q3
  subst e3
  have hp := hA.1.2.2.2.2.2.2.2.2.2.1 (20 * j + c) (by omega)
  have mj2 : ∀ σ, RI A σ → f_MO_judged (nI j) (nI c) (nI k) σ = if nI k = nI 0 then if nI (ptc A.N (20 * j + c)) = nI 0 then some (-5, σ) else some (nI (ptc A.N (20 * j + c)) - nI 1, σ) else bd (f_MO_heads σ) fun r13 σ14 => if nI k = nI 1 then gd (inb (nI c) 20) <| bd (f_MO_most (nI j) (σ14 117 (nI c).toNatClampNeg) σ14) fun r20 σ21 => some (r20, σ21) else gd (inb (nI c) 20) <| bd (f_MO_rank (nI j) (σ14 117 (nI c).toNatClampNeg) σ14) fun r17 σ18 => some (r17, σ18) := by
    intro σ h
    rw [mj σ h, m_inP σ _ 2 (by decide), bd_s, decide_eq_true q3, if_neg (by decide), inb_n (by omega) (by omega), gd_t, nI_clamp (by omega), h.1 _ (by omega), show 1325 + 20 * j + c = 1325 + (20 * j + c) by omega, hp.1, lt']
  rcases (by omega : k = 0 ∨ k = 1 ∨ k = 2) with e | e | e
  · subst e
    refine One.q hA (wI (ptc A.N (20 * j + c))) (fun σ h => ?_) (fun σ h => ?_)
    · obtain ⟨y, y1, y2, y3, y4, y5⟩ := cj σ h
      exact ⟨y, by rw [y5, if_pos rfl, r_points y4 hj c1, bd_s], y1⟩
    · refine ⟨σ, ?_, Fr.rf _ _, fun _ _ => rfl⟩
      rw [mj2 σ h, if_pos rfl]
      by_cases z : ptc A.N (20 * j + c) = 0
      · rw [if_pos (by rw [z]), z]; rfl
      · rw [if_neg (nI_ne (by omega) (by decide) z), mI_sub, mI_s z, wI_s z]
  · subst e
    refine One.q hA (nI (gp A.N j (hd A.N c))) (fun σ h => ?_) (fun σ h => ?_)
    · obtain ⟨y, y1, y2, y3, y4, y5⟩ := cj σ h
      exact ⟨y, by rw [y5, if_neg (by decide), if_pos rfl, s_raPoints hj h20 (y3.1 j _ hj h20), bd_s], y1⟩
    · obtain ⟨z, z1, z2, z3, z4, z5, z6⟩ := m_headsQ hA h
      exact ⟨z, by rw [mj2 σ h, if_neg (by decide), z1, bd_s, if_pos rfl, inb_n c1 (by omega), gd_t, nI_clamp (by omega), z4 c c1, hdm_in c4, m_most z6 z4 hj h20, bd_s], z2, z3⟩
  · subst e
    refine One.q hA (nI (rk A.N j (hd A.N c))) (fun σ h => ?_) (fun σ h => ?_)
    · obtain ⟨y, y1, y2, y3, y4, y5⟩ := cj σ h
      exact ⟨y, by rw [y5, if_neg (by decide), if_neg (by decide), if_pos rfl, s_rankBy y3 hj hh, bd_s], y1⟩
    · obtain ⟨z, z1, z2, z3, z4, z5, z6⟩ := m_headsQ hA h
      exact ⟨z, by rw [mj2 σ h, if_neg (by decide), z1, bd_s, if_neg (by decide), inb_n c1 (by omega), gd_t, nI_clamp (by omega), z4 c c1, hdm_in c4, m_rank z6 z4 hj h20, bd_s], z2, z3⟩)
theorem m_b65 (σ : Sg) {p : Nat} (hp : p ≤ 2000) : f_MO_ballot_65 (mI p) σ = some (wI p, σ) := by
  unfold f_MO_ballot_65
  by_cases z : p = 0
  · rw [if_neg (fun w => (mI_nn hp).mp w z), z]; rfl
  · rw [if_pos ((mI_nn hp).mpr z), mI_s z, wI_s z]
theorem op_ballot (x1 x2 x3 : Int32) : Ok2 (f_CT_ballot x1 x2 x3) (f_MO_ballot x1 x2 x3) := Ok2.mk (fun A hA => by
  show One _ _ A
  by_cases q : plc 12 x1 < 12
  case neg =>
    refine One.same hA (-1) (fun σ h => ?_) (fun σ h => ?_)
    · unfold f_CT_ballot; rw [s_idx _ _ _ (by decide), bd_s, decide_eq_false q, bI_f, if_pos rfl]
    · unfold f_MO_ballot; rw [m_inP σ x1 11 (by decide), bd_s, decide_eq_false q, bI_f, if_pos rfl]
  obtain ⟨v, hv, e1⟩ := ix3 (by decide) q
  subst e1
  by_cases q2 : plc 3 x2 < 3
  case neg =>
    refine One.same hA (-2) (fun σ h => ?_) (fun σ h => ?_)
    · unfold f_CT_ballot; rw [s_idx _ _ _ (by decide), bd_s, decide_eq_true q, if_neg (by decide), s_idx _ _ _ (by decide), bd_s, decide_eq_false q2, bI_f, if_pos rfl]
    · unfold f_MO_ballot; rw [m_inP σ _ 11 (by decide), bd_s, decide_eq_true q, if_neg (by decide), m_inP σ x2 2 (by decide), bd_s, decide_eq_false q2, bI_f, if_pos rfl]
  obtain ⟨w, hw, e2⟩ := ix3 (by decide) q2
  subst e2
  have hwb := hA.1.2.2.2.2.2.2.2.1 (3 * v + w) (by omega)
  have hE := hA.1.1.2
  have mb : ∀ σ, RI A σ → ∃ z, Fr QM σ z ∧ (∀ i, i ≠ 23 → z 112 i = σ 112 i) ∧ (∀ c, c < 36 → z 128 c = mI (fc A.N c)) ∧ z 113 = σ 113 ∧ f_MO_ballot (nI v) (nI w) x3 σ = if x3 = nI 0 then f_MO_ballot_65 (mI (wsc A.N (3 * v + w))) z else f_MO_ballot_65 (z 128 (3 * v + w)) z := by
    intro σ h
    obtain ⟨y, y1, y2, y3, y4, y5, y6⟩ := m_headsQ hA h
    obtain ⟨z, z1, z2, z3⟩ := m_counts y6 y4
    refine ⟨z, y2.tr (z2.mono (by decide)), fun i hi => by rw [z2.at' 112 (by decide)]; exact y3 i hi, z3, by rw [z2.at' 113 (by decide), y2.at' 113 (by decide)], ?_⟩
    unfold f_MO_ballot
    rw [m_inP σ _ 11 (by decide), bd_s, decide_eq_true q, if_neg (by decide), m_inP σ _ 2 (by decide), bd_s, decide_eq_true q2, if_neg (by decide), y1, bd_s, z1, bd_s, nI_mul, nI_add, nI_add, nI_add (3 * v) w, inb_n (by omega) (by omega), gd_t, nI_clamp (by omega), inb_n (by omega) (by omega), gd_t, nI_clamp (by omega), z2.at' 113 (by decide), y2.at' 113 (by decide), h.1 _ (by omega), show 1289 + 3 * v + w = 1289 + (3 * v + w) by omega, hwb.1, mI_sub]
  by_cases q3 : x3 = nI 0
  · refine One.q hA (wI (wsc A.N (3 * v + w))) (fun σ h => ⟨σ, ?_, Fr.rf _ _⟩) (fun σ h => ?_)
    · unfold f_CT_ballot
      rw [s_idx _ _ _ (by decide), bd_s, decide_eq_true q, if_neg (by decide), s_idx _ _ _ (by decide), bd_s, decide_eq_true q2, if_neg (by decide), if_pos q3, r_wish (h.qs hA) hv hw, bd_s]
    · obtain ⟨z, z1, z2, z3, z4, z5⟩ := mb σ h
      exact ⟨z, by rw [z5, if_pos q3, m_b65 z (by omega)], z1, z2⟩
  · refine One.q hA (wI (fc A.N (3 * v + w))) (fun σ h => ?_) (fun σ h => ?_)
    · obtain ⟨a, a1, a2, a3, a4⟩ := g_find (h.qs hA)
      obtain ⟨b, b1, b2, b3⟩ := s_coFill ((h.qs hA).fr a2 (by decide)) a3
      refine ⟨b, ?_, (a2.mono (by decide)).tr (b2.mono (by decide))⟩
      unfold f_CT_ballot
      rw [s_idx _ _ _ (by decide), bd_s, decide_eq_true q, if_neg (by decide), s_idx _ _ _ (by decide), bd_s, decide_eq_true q2, if_neg (by decide), if_neg q3, a1, bd_s, b1, bd_s, s_cowish hv hw (f := fun k => fc A.N (3 * v + k)) (b3.1 _ (by omega)), bd_s]
    · obtain ⟨z, z1, z2, z3, z4, z5⟩ := mb σ h
      have := (fc_le hA.1 (c := 3 * v + w) (by omega)).1
      exact ⟨z, by rw [z5, if_neg q3, z3 _ (by omega), m_b65 z (by omega)], z1, z2⟩)
theorem s_headAt {σ : Sg} {N : Rw} (ho : OAll N σ) {m : Nat} (hm : m < 2147483648) : (∀ k, isHd N k = true → idx N k = m → f_OR_headAt (nI m) σ = some (nI k, σ)) ∧ (¬ m < ng N → f_OR_headAt (nI m) σ = some (-5, σ)) := by
  unfold f_OR_headAt
  refine lpE (fun n i (_ : Unit) => f_OR_headAt_2 n (nI m) (nI i) σ) 20 (fun i _ => ∀ j, j < i → ¬ (isHd N j = true ∧ idx N j = m)) (fun R => (∀ k, isHd N k = true → idx N k = m → R = some (nI k, σ)) ∧ (¬ m < ng N → R = some (-5, σ))) ?_ ?_ 20 0 FU () rfl (by decide) (fun j hj => absurd hj (Nat.not_lt_zero _))
  · intro n i _ hi hI
    have ho2 := ho.2 i hi
    show (_ ∧ _) ∨ ∃ y : Unit, _ ∧ f_OR_headAt_2 (n + 1) (nI m) (nI i) σ = _
    rw [f_OR_headAt_2, if_neg (nI_ge hi (by decide)), inb_n hi (by omega), gd_t, nI_clamp (by omega), nI_add]
    cases q : isHd N i
    · rw [(ho2.2 q).2, if_neg (fun (w : (-5 : Int32) = nI m) => neI (z := -5) hm (by decide) w.symm)]
      refine Or.inr ⟨(), fun j hj w => ?_, rfl⟩
      by_cases z : j = i
      · rw [z, q] at w; cases w.1
      · exact hI j (by omega) w
    · have hn := idx_ng q
      have hg := ng_le N
      rw [(ho2.1 q).2]
      by_cases z : idx N i = m
      · rw [if_pos (by rw [z])]
        refine Or.inl ⟨fun k hk hk2 => ?_, fun w => by omega⟩
        rw [idx_inj (hd_lt20 hk) hi hk q (by omega)]
      · rw [if_neg (nI_ne (by omega) hm z)]
        refine Or.inr ⟨(), fun j hj w => ?_, rfl⟩
        by_cases z2 : j = i
        · rw [z2] at w; exact z w.2
        · exact hI j (by omega) w
  · intro n _ hI
    show (∀ k, _ → _ → f_OR_headAt_2 (n + 1) (nI m) (nI 20) σ = _) ∧ (_ → f_OR_headAt_2 (n + 1) (nI m) (nI 20) σ = _)
    rw [f_OR_headAt_2, if_pos (Int32.le_refl _)]
    exact ⟨fun k hk hk2 => absurd ⟨hk, hk2⟩ (hI k (hd_lt20 hk)), fun _ => rfl⟩
theorem op_ranked (x1 : Int32) : Ok2 (f_CT_ranked x1) (f_MO_ranked x1) := Ok2.mk (fun A hA => by
  show One _ _ A
  rcases i32c x1 with n2 | ⟨m, hm, rfl⟩
  · have ng0 : ¬ (nI 0 : Int32) ≤ x1 := fun w => absurd n2 (Int32.not_lt.mpr w)
    refine One.same hA (-2) (fun σ h => ?_) (fun σ h => ?_)
    · unfold f_CT_ranked; rw [if_neg ng0]
    · unfold f_MO_ranked; rw [if_neg ng0]
  have h0 : (nI 0 : Int32) ≤ nI m := (nI_leI (by decide) hm).mpr (Nat.zero_le _)
  have hg := ng_le A.N
  by_cases z : m < ng A.N
  · obtain ⟨k, k1, k2⟩ := idx_sur A.N z
    refine One.q hA (nI k) (fun σ h => ?_) (fun σ h => ?_)
    · obtain ⟨y, y1, y2, y3⟩ := c_tally hA h
      exact ⟨y, by unfold f_CT_ranked; rw [if_pos h0, y1, bd_s, (s_headAt y3.2.2.2.2.2.1 hm).1 k k1 k2, bd_s], y2⟩
    · obtain ⟨y, y1, y2, y3, y4⟩ := m_worksQ hA h
      have ho := (y4.2.2.1 k k1).2
      rw [k2] at ho
      exact ⟨y, by unfold f_MO_ranked; rw [if_pos h0, y1, bd_s, y4.1.2.1, if_neg (nI_ge z (by omega)), inb_n (by omega) (by omega), gd_t, nI_clamp (by omega), ho], y2, y3⟩
  · refine One.q hA (-5) (fun σ h => ?_) (fun σ h => ?_)
    · obtain ⟨y, y1, y2, y3⟩ := c_tally hA h
      exact ⟨y, by unfold f_CT_ranked; rw [if_pos h0, y1, bd_s, (s_headAt y3.2.2.2.2.2.1 hm).2 z, bd_s], y2⟩
    · obtain ⟨y, y1, y2, y3, y4⟩ := m_worksQ hA h
      exact ⟨y, by unfold f_MO_ranked; rw [if_pos h0, y1, bd_s, y4.1.2.1, if_pos ((nI_leI (by omega) hm).mpr (by omega))], y2, y3⟩)
theorem op_round (x1 x2 : Int32) : Ok2 (f_CT_round x1 x2) (f_MO_round x1 x2) := Ok2.mk (fun A hA => by
  show One _ _ A
  rcases i32c x1 with n1 | ⟨m, hm, rfl⟩
  · refine One.same hA (-2) (fun σ h => ?_) (fun σ h => ?_)
    · unfold f_CT_round; rw [if_pos n1]
    · unfold f_MO_round; rw [if_pos n1]
  by_cases q : plc 3 x2 < 3
  case neg =>
    refine One.same hA (-2) (fun σ h => ?_) (fun σ h => ?_)
    · unfold f_CT_round; rw [if_neg (neg0 hm), s_idx _ _ _ (by decide), bd_s, decide_eq_false q, bI_f, if_pos rfl]
    · unfold f_MO_round; rw [if_neg (neg0 hm), m_inP σ x2 2 (by decide), bd_s, decide_eq_false q, bI_f, if_pos rfl]
  obtain ⟨w, hw, e1⟩ := ix3 (by decide) q
  subst e1
  have hg := ng_le A.N
  have cr : ∀ σ, CI A σ → ∃ y, Fr QC σ y ∧ WC A.N y ∧ f_CT_round (nI m) (nI w) σ = if nI m < nI (ng A.N - 1) then (if nI w = nI 0 then bd (f_RO_headOut (nI m) y) fun r11 σ12 => some (r11, σ12) else if nI w = nI 1 then bd (f_RO_ballotsOfHeadOut (nI m) y) fun r14 σ15 => some (r14, σ15) else bd (f_RO_ballotsForNone (nI m) y) fun r16 σ17 => some (r16, σ17)) else some (-5, y) := by
    intro σ h
    obtain ⟨y, y1, y2, y3⟩ := c_tally hA h
    refine ⟨y, y2, y3, ?_⟩
    unfold f_CT_round f_RO_number
    rw [if_neg (neg0 hm), s_idx _ _ _ (by decide), bd_s, decide_eq_true q, if_neg (by decide), y1, bd_s, bd_s, y3.2.2.2.2.1.1]
  have mr : ∀ σ, RI A σ → ∃ y, Fr QM σ y ∧ (∀ i, i ≠ 23 → y 112 i = σ 112 i) ∧ WM A.N y ∧ f_MO_round (nI m) (nI w) σ = if nI m < nI (ng A.N - 1) then (if nI w = nI 0 then gd (inb (nI m) 20) <| some (y 122 (nI m).toNatClampNeg, y) else if nI w = nI 1 then gd (inb (nI m) 20) <| some (y 123 (nI m).toNatClampNeg, y) else gd (inb (nI m) 20) <| some (y 124 (nI m).toNatClampNeg, y)) else some (-5, y) := by
    intro σ h
    obtain ⟨y, y1, y2, y3, y4⟩ := m_worksQ hA h
    refine ⟨y, y2, y3, y4, ?_⟩
    unfold f_MO_round
    rw [if_neg (neg0 hm), m_inP σ _ 2 (by decide), bd_s, decide_eq_true q, if_neg (by decide), y1, bd_s, y4.1.2.1, mI_sub]
    by_cases z : ng A.N = 0
    · rw [z, if_neg (fun s => neg0 hm (Int32.lt_trans s (by decide))), if_neg (neg0 hm)]
    · rw [mI_s z]
  by_cases z : m < ng A.N - 1
  case neg =>
    refine One.q hA (-5) (fun σ h => ?_) (fun σ h => ?_)
    · obtain ⟨y, y1, y2, y3⟩ := cr σ h
      exact ⟨y, by rw [y3, if_neg (fun s => z ((nI_ltI hm (by omega)).mp s))], y1⟩
    · obtain ⟨y, y1, y2, y3, y4⟩ := mr σ h
      exact ⟨y, by rw [y4, if_neg (fun s => z ((nI_ltI hm (by omega)).mp s))], y1, y2⟩
  have zz : nI m < nI (ng A.N - 1) := (nI_ltI hm (by omega)).mpr z
  rcases (by omega : w = 0 ∨ w = 1 ∨ w = 2) with e | e | e
  · subst e
    refine One.q hA (nI (ho A.N m)) (fun σ h => ?_) (fun σ h => ?_)
    · obtain ⟨y, y1, y2, y3⟩ := cr σ h
      exact ⟨y, by unfold f_RO_headOut at y3; rw [y3, if_pos zz, if_pos rfl, s_at _ _ _ _ (by omega) (by decide), bd_s, bd_s, (y2.2.2.2.2.1.2.1 m z).1], y1⟩
    · obtain ⟨y, y1, y2, y3, y4⟩ := mr σ h
      exact ⟨y, by rw [y4, if_pos zz, if_pos rfl, inb_n (by omega) (by omega), gd_t, nI_clamp (by omega), (y3.2.1.1 m z).1], y1, y2⟩
  · subst e
    refine One.q hA (nI (vo A.N m)) (fun σ h => ?_) (fun σ h => ?_)
    · obtain ⟨y, y1, y2, y3⟩ := cr σ h
      exact ⟨y, by unfold f_RO_ballotsOfHeadOut at y3; rw [y3, if_pos zz, if_neg (by decide), if_pos rfl, s_at _ _ _ _ (by omega) (by decide), bd_s, bd_s, (y2.2.2.2.2.1.2.1 m z).2.1], y1⟩
    · obtain ⟨y, y1, y2, y3, y4⟩ := mr σ h
      exact ⟨y, by rw [y4, if_pos zz, if_neg (by decide), if_pos rfl, inb_n (by omega) (by omega), gd_t, nI_clamp (by omega), (y3.2.1.1 m z).2.1], y1, y2⟩
  · subst e
    refine One.q hA (nI (lo A.N (os A.N m))) (fun σ h => ?_) (fun σ h => ?_)
    · obtain ⟨y, y1, y2, y3⟩ := cr σ h
      exact ⟨y, by unfold f_RO_ballotsForNone at y3; rw [y3, if_pos zz, if_neg (by decide), if_neg (by decide), s_at _ _ _ _ (by omega) (by decide), bd_s, bd_s, (y2.2.2.2.2.1.2.1 m z).2.2], y1⟩
    · obtain ⟨y, y1, y2, y3, y4⟩ := mr σ h
      exact ⟨y, by rw [y4, if_pos zz, if_neg (by decide), if_neg (by decide), inb_n (by omega) (by omega), gd_t, nI_clamp (by omega), (y3.2.1.1 m z).2.2], y1, y2⟩)
end ASK2
