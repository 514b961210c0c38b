section AUT
def byc (N : Rw) (a b : Nat) : Bool := inn N b && decide (vN (N (9 + b)) = a)
noncomputable def bpl (N : Rw) (a : Nat) : Nat → Nat
  | 0 => 0
  | n + 1 => if byc N a n = true then (if bpl N a n = 0 then pla N (hd N n) else min (bpl N a n) (pla N (hd N n))) else bpl N a n
def pI (n : Nat) : Int32 := if n = 0 then -5 else nI n
theorem byc_ev {N : Rw} (hN : InvN N) {a b : Nat} (h : byc N a b = true) : b < ev N ∧ inn N b = true := by
  have q : inn N b = true ∧ vN (N (9 + b)) = a := by simpa [byc] using h
  exact ⟨(hN.in_lt q.1).2, q.1⟩
theorem bpl_out {N : Rw} (hN : InvN N) {a : Nat} : ∀ k, bpl N a (ev N + k) = bpl N a (ev N) := by
  intro k
  induction k with
  | zero => rfl
  | succ k ih =>
    show bpl N a (ev N + k + 1) = _
    rw [bpl, if_neg (fun w => by have := (byc_ev hN w).1; omega), ih]
theorem bpl_le (N : Rw) (a : Nat) : ∀ n, bpl N a n ≤ 21 := by
  intro n
  induction n with
  | zero => exact Nat.zero_le _
  | succ n ih =>
    have := pla_le N (hd N n)
    rw [bpl]
    by_cases q : byc N a n = true
    · rw [if_pos q]
      by_cases z : bpl N a n = 0
      · rw [if_pos z]; exact this
      · rw [if_neg z]; omega
    · rw [if_neg q]; exact ih
theorem s_isBy {σ : Sg} {N : Rw} (h : QS σ N) {a b : Nat} (ha : a < 10) (hb : b < 20) : f_CT_isBy (nI a) (nI b) σ = some (bI (byc N a b), σ) := by
  have hau := h.2.1.2.2.1 b hb
  unfold f_CT_isBy
  rw [r_isInN h b hb, bd_s]
  cases q : inn N b
  · have e : byc N a b = false := by unfold byc; rw [q]; rfl
    rw [if_pos (by decide), e]; rfl
  · rw [if_neg (by decide), r_author h hb, bd_s, hau.1]
    by_cases z : vN (N (9 + b)) = a
    · have e : byc N a b = true := by unfold byc; rw [q, decide_eq_true z]; rfl
      rw [if_pos (by rw [z]), e]; rfl
    · have e : byc N a b = false := by unfold byc; rw [decide_eq_false z, Bool.and_false]
      rw [if_neg (nI_ne (by omega) (by omega) z), e]; rfl
theorem s_captionsBy {σ : Sg} {N : Rw} (h : QS σ N) {a : Nat} (ha : a < 10) : f_CT_captionsBy (nI a) σ = some (nI (cnt (byc N a) 20), σ) := by
  unfold f_CT_captionsBy
  refine lpS (fun n i y => f_CT_captionsBy_4 n (nI a) (nI y) (nI i) σ) 20 (fun i => b2n (byc N a i)) (fun y => some (nI y, σ)) ?_ ?_ FU (by decide)
  · intro n i y hi hy
    show f_CT_captionsBy_4 (n + 1) (nI a) (nI y) (nI i) σ = _
    rw [f_CT_captionsBy_4, if_neg (nI_ge hi (by decide)), s_isBy h ha hi, bd_s, nI_add, nI_add]
    cases q : byc N a i
    · rw [if_pos (by decide)]; rfl
    · rw [if_neg (by decide)]; rfl
  · intro n
    show f_CT_captionsBy_4 (n + 1) (nI a) _ (nI 20) σ = _
    rw [f_CT_captionsBy_4, if_pos (Int32.le_refl _)]
theorem s_amountFor {σ : Sg} {N : Rw} (h : QS σ N) (hs : SAll N σ) {a : Nat} (ha : a < 10) : f_CT_amountFor (nI a) σ = some (nI (sm (fun b => if byc N a b = true then ocp N b else 0) 20), σ) := by
  unfold f_CT_amountFor
  refine lpS (fun n i y => f_CT_amountFor_4 n (nI a) (nI y) (nI i) σ) 20 (fun b => if byc N a b = true then ocp N b else 0) (fun y => some (nI y, σ)) ?_ ?_ FU (by decide)
  · intro n i y hi hy
    show f_CT_amountFor_4 (n + 1) (nI a) (nI y) (nI i) σ = _
    rw [f_CT_amountFor_4, if_neg (nI_ge hi (by decide)), s_isBy h ha hi, bd_s, nI_add]
    cases q : byc N a i
    · rw [if_pos (by decide), if_neg (by decide)]; rfl
    · unfold f_SH_ofCaption
      rw [if_neg (by decide), s_at _ _ _ _ hi (by decide), bd_s, bd_s, hs.2 i hi, nI_add, lt', if_pos rfl]
  · intro n
    show f_CT_amountFor_4 (n + 1) (nI a) _ (nI 20) σ = _
    rw [f_CT_amountFor_4, if_pos (Int32.le_refl _)]
theorem pla_pos (N : Rw) (k : Nat) : pla N k ≠ 0 := by unfold pla; omega
theorem s_bestPlaceOf {σ : Sg} {N : Rw} (h : QS σ N) (hc : HC σ N) (ho : OAll N σ) {a : Nat} (ha : a < 10) : f_CT_bestPlaceOf (nI a) σ = some (pI (bpl N a 20), σ) := by
  unfold f_CT_bestPlaceOf
  refine Exists.elim (lpI (fun n i (_ : Unit) => f_CT_bestPlaceOf_5 n (nI a) (pI (bpl N a i)) (nI i) σ) 20 (fun _ _ => True) ?_ 0 FU () (Nat.zero_le _) (by decide) trivial) ?_
  · intro n i _ hi _
    have hb := bpl_le N a i
    have hp := pla_le N (hd N i)
    refine ⟨(), trivial, ?_⟩
    show f_CT_bestPlaceOf_5 (n + 1) (nI a) (pI (bpl N a i)) (nI i) σ = _
    rw [f_CT_bestPlaceOf_5, if_neg (nI_ge hi (by decide)), s_isBy h ha hi, bd_s, nI_add, bpl]
    cases q : byc N a i
    · rw [if_pos (by decide), if_neg (by decide)]
    · have hi2 := (byc_ev h.2.1 q).2
      have hh := hd_isHd h.2.1 hi2
      rw [if_neg (by decide), s_headN hc hi, bd_s, hdc_in hi2, s_placeOf ho hh, bd_s, if_pos rfl]
      by_cases z : bpl N a i = 0
      · rw [z, if_pos rfl, if_pos (show pI 0 = -5 from rfl), show pI (pla N (hd N i)) = nI (pla N (hd N i)) from if_neg (pla_pos N _)]
      · rw [if_neg z, show pI (bpl N a i) = nI (bpl N a i) from if_neg z, if_neg (neI (by omega) (by decide)), imin_nI (by omega) (by omega), lt', show pI (min (bpl N a i) (pla N (hd N i))) = nI (min (bpl N a i) (pla N (hd N i))) from if_neg (by have := pla_pos N (hd N i); omega)]
  · rintro m ⟨_, -, heq⟩
    refine heq.trans ?_
    show f_CT_bestPlaceOf_5 (m + 1) (nI a) (pI (bpl N a 20)) (nI 20) σ = _
    rw [f_CT_bestPlaceOf_5, if_pos (Int32.le_refl _)]
theorem m_author40 {σ : Sg} {N : Rw} (h : MR σ N) (hw : WM N σ) {a w : Nat} (ha : a < 10) : f_MO_author_40 FU (nI a) (nI w) (nI 0) (nI 0) (-5) (nI 0) σ = if nI w = nI 0 then some (nI (cnt (byc N a) 20), σ) else if nI w = nI 1 then some (nI (sm (fun b => if byc N a b = true then ocp N b else 0) 20), σ) else some (pI (bpl N a 20), σ) := by
  have hE := h.2.1.2
  have e1 : cnt (byc N a) (ev N) = cnt (byc N a) 20 := (sm_out hE (fun i h1 h2 => by
    show b2n (byc N a i) = 0
    cases q : byc N a i
    · rfl
    · have := (byc_ev h.2 q).1; omega)).symm
  have e2 : sm (fun b => if byc N a b = true then ocp N b else 0) (ev N) = sm (fun b => if byc N a b = true then ocp N b else 0) 20 := (sm_out hE (fun i h1 h2 => if_neg (fun w => by have := (byc_ev h.2 w).1; omega))).symm
  have e3 : bpl N a (ev N) = bpl N a 20 := by rw [← bpl_out h.2 (20 - ev N), show ev N + (20 - ev N) = 20 by omega]
  rw [← e1, ← e2, ← e3]
  refine Exists.elim (lpI (fun n i (_ : Unit) => f_MO_author_40 n (nI a) (nI w) (nI (cnt (byc N a) i)) (nI (sm (fun b => if byc N a b = true then ocp N b else 0) i)) (pI (bpl N a i)) (nI i) σ) (ev N) (fun _ _ => True) ?_ 0 FU () (Nat.zero_le _) (by unfold FU; omega) trivial) ?_
  · intro n i _ hi _
    have hb := bpl_le N a i
    have hp := pla_le N (hd N i)
    have hau := h.2.2.2.1 i (by omega)
    refine ⟨(), trivial, ?_⟩
    show f_MO_author_40 (n + 1) (nI a) (nI w) (nI (cnt (byc N a) i)) (nI (sm (fun b => if byc N a b = true then ocp N b else 0) i)) (pI (bpl N a i)) (nI i) σ = _
    rw [f_MO_author_40, inb_n (by decide) (by decide), gd_t, nI_clamp (by decide), m_ev h, if_neg (nI_ge hi (by omega)), m_isN h (by omega), bd_s, bpl, cnt_s, sm]
    cases q : inn N i
    · have e : byc N a i = false := by unfold byc; rw [q]; rfl
      rw [if_pos (by decide), e, if_neg (by decide), if_neg (by decide), nI_add]; rfl
    · have hh := hd_isHd h.2 q
      have h20 := hd_lt20 hh
      rw [if_neg (by decide), nI_add, inb_n (by omega) (by omega), gd_t, nI_clamp (by omega), h.1 _ (by omega), hau.1]
      by_cases z : vN (N (9 + i)) = a
      · have e : byc N a i = true := by unfold byc; rw [q, decide_eq_true z]; rfl
        rw [if_pos (by rw [z]), inb_n (by omega) (by omega), gd_t, nI_clamp (by omega), hw.1.1 i (by omega), hdm_in q, inb_n h20 (by omega), gd_t, nI_clamp (by omega), (hw.2.2.1 _ hh).1, lt', gd_t, hw.2.2.2 i (by omega), nI_add, lt', nI_add, nI_add, e, if_pos rfl, if_pos rfl]
        by_cases y : bpl N a i = 0
        · rw [y, if_pos rfl, if_pos (show pI 0 = -5 from rfl), show pI (pla N (hd N i)) = nI (pla N (hd N i)) from if_neg (pla_pos N _)]; rfl
        · rw [if_neg y, show pI (bpl N a i) = nI (bpl N a i) from if_neg y, if_neg (neI (by omega) (by decide)), show pI (min (bpl N a i) (pla N (hd N i))) = nI (min (bpl N a i) (pla N (hd N i))) from if_neg (by have := pla_pos N (hd N i); omega)]
          by_cases x : bpl N a i ≤ pla N (hd N i)
          · rw [if_pos ((nI_leI (by omega) (by omega)).mpr x), Nat.min_eq_left x]; rfl
          · rw [if_neg (fun s => x ((nI_leI (by omega) (by omega)).mp s)), Nat.min_eq_right (by omega)]; rfl
      · have e : byc N a i = false := by unfold byc; rw [decide_eq_false z, Bool.and_false]
        rw [if_neg (nI_ne (by omega) (by omega) z), e, if_neg (by decide), if_neg (by decide), nI_add]; rfl
  · rintro m ⟨_, -, heq⟩
    refine heq.trans ?_
    show f_MO_author_40 (m + 1) (nI a) (nI w) (nI (cnt (byc N a) (ev N))) (nI (sm (fun b => if byc N a b = true then ocp N b else 0) (ev N))) (pI (bpl N a (ev N))) (nI (ev N)) σ = _
    rw [f_MO_author_40, inb_n (by decide) (by decide), gd_t, nI_clamp (by decide), m_ev h, if_pos (Int32.le_refl _)]
theorem op_author (x1 x2 : Int32) : Ok2 (f_CT_author x1 x2) (f_MO_author x1 x2) := Ok2.mk (fun A hA => by
  show One _ _ A
  by_cases q : plc 10 x1 < 10
  case neg =>
    refine One.same hA (-1) (fun σ h => ?_) (fun σ h => ?_)
    · unfold f_CT_author; rw [s_idx _ _ _ (by decide), bd_s, decide_eq_false q, bI_f, if_pos rfl]
    · unfold f_MO_author; rw [m_inP σ x1 9 (by decide), bd_s, decide_eq_false q, bI_f, if_pos rfl]
  obtain ⟨a, ha, e1⟩ := ix3 (by decide) q
  subst e1
  have cs : ∀ σ, f_CT_author (nI a) x2 σ = if x2 = nI 0 then bd (f_CT_captionsBy (nI a) σ) fun r σ => some (r, σ) else if x2 = nI 1 then bd (f_CT_tally σ) fun r8 σ9 => bd (f_CT_amountFor (nI a) σ9) fun r σ => some (r, σ) else if x2 = nI 2 then bd (f_CT_tally σ) fun r13 σ14 => bd (f_CT_bestPlaceOf (nI a) σ14) fun r σ => some (r, σ) else some (-2, σ) := by
    intro σ
    unfold f_CT_author
    rw [s_idx _ _ _ (by decide), bd_s, decide_eq_true q, if_neg (by decide)]
  by_cases q3 : plc 3 x2 < 3
  case neg =>
    have no : ∀ k, k < 3 → ¬ x2 = nI k := fun k hk w => q3 (by rw [w, plc_nI (by decide) hk]; exact hk)
    refine One.same hA (-2) (fun σ h => ?_) (fun σ h => ?_)
    · rw [cs, if_neg (no 0 (by decide)), if_neg (no 1 (by decide)), if_neg (no 2 (by decide))]
    · unfold f_MO_author; rw [m_inP σ _ 9 (by decide), bd_s, decide_eq_true q, if_neg (by decide), m_inP σ x2 2 (by decide), bd_s, decide_eq_false q3, bI_f, if_pos rfl]
  obtain ⟨w, hw, e2⟩ := ix3 (by decide) q3
  subst e2
  have ms : ∀ σ, RI A σ → ∃ z, Fr QM σ z ∧ (∀ i, i ≠ 23 → z 112 i = σ 112 i) ∧ f_MO_author (nI a) (nI w) σ = if nI w = nI 0 then some (nI (cnt (byc A.N a) 20), z) else if nI w = nI 1 then some (nI (sm (fun b => if byc A.N a b = true then ocp A.N b else 0) 20), z) else some (pI (bpl A.N a 20), z) := by
    intro σ h
    obtain ⟨z, z1, z2, z3, z4⟩ := m_worksQ hA h
    refine ⟨z, z2, z3, ?_⟩
    unfold f_MO_author
    rw [m_inP σ _ 9 (by decide), bd_s, decide_eq_true q, if_neg (by decide), m_inP σ _ 2 (by decide), bd_s, decide_eq_true q3, if_neg (by decide), z1, bd_s]
    exact m_author40 ((h.mr hA).fr z2 (by decide)) z4 ha
  rcases (by omega : w = 0 ∨ w = 1 ∨ w = 2) with e | e | e
  · subst e
    refine One.q hA (nI (cnt (byc A.N a) 20)) (fun σ h => ⟨σ, ?_, Fr.rf _ _⟩) (fun σ h => ?_)
    · rw [cs, if_pos rfl, s_captionsBy (h.qs hA) ha, bd_s]
    · obtain ⟨z, z1, z2, z3⟩ := ms σ h
      exact ⟨z, by rw [z3, if_pos rfl], z1, z2⟩
  · subst e
    refine One.q hA (nI (sm (fun b => if byc A.N a b = true then ocp A.N b else 0) 20)) (fun σ h => ?_) (fun σ h => ?_)
    · obtain ⟨y, y1, y2, y3⟩ := c_tally hA h
      exact ⟨y, by rw [cs, if_neg (by decide), if_pos rfl, y1, bd_s, s_amountFor ((h.qs hA).fr y2 (by decide)) y3.2.2.2.2.2.2 ha, bd_s], y2⟩
    · obtain ⟨z, z1, z2, z3⟩ := ms σ h
      exact ⟨z, by rw [z3, if_neg (by decide), if_pos rfl], z1, z2⟩
  · subst e
    refine One.q hA (pI (bpl A.N a 20)) (fun σ h => ?_) (fun σ h => ?_)
    · obtain ⟨y, y1, y2, y3⟩ := c_tally hA h
      exact ⟨y, by rw [cs, if_neg (by decide), if_neg (by decide), if_pos rfl, y1, bd_s, s_bestPlaceOf ((h.qs hA).fr y2 (by decide)) y3.1 y3.2.2.2.2.2.1 ha, bd_s], y2⟩
    · obtain ⟨z, z1, z2, z3⟩ := ms σ h
      exact ⟨z, by rw [z3, if_neg (by decide), if_neg (by decide)], z1, z2⟩)
end AUT
