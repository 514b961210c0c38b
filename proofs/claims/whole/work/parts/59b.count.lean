section CNT
/-- a sum over the order is one over the heads -/
noncomputable def osm (N : Rw) (f : Nat → Nat) (r : Nat) : Nat := sm (fun k => if isHd N k = true ∧ idx N k < r then f k else 0) 20
theorem osm_s {N : Rw} (f : Nat → Nat) {k : Nat} (hk : isHd N k = true) : osm N f (idx N k + 1) = osm N f (idx N k) + f k := by
  have hk20 := hd_lt20 hk
  have h := sm_upd (p := fun i => if isHd N i = true ∧ idx N i < idx N k then f i else 0) (q := fun i => if isHd N i = true ∧ idx N i < idx N k + 1 then f i else 0) hk20 (fun i hi => by
    by_cases w : isHd N i = true ∧ idx N i < idx N k
    · show (if _ then _ else _) = (if _ then _ else _)
      rw [if_pos w, if_pos ⟨w.1, by omega⟩]
    · show (if _ then _ else _) = (if _ then _ else _)
      rw [if_neg w, if_neg (fun u => w ⟨u.1, by
        by_cases e : idx N i = idx N k
        · exact absurd (idx_inj (hd_lt20 u.1) hk20 u.1 hk e) hi
        · omega⟩)])
  have e1 : (if isHd N k = true ∧ idx N k < idx N k then f k else 0) = 0 := if_neg (fun w => absurd w.2 (Nat.lt_irrefl _))
  have e2 : (if isHd N k = true ∧ idx N k < idx N k + 1 then f k else 0) = f k := if_pos ⟨hk, Nat.lt_succ_self _⟩
  rw [e1, e2] at h
  exact h
theorem osm_0 (N : Rw) (f : Nat → Nat) : osm N f 0 = 0 := (sm_out (m := 0) (Nat.zero_le 20) (fun c _ hc => if_neg (fun w => absurd w.2 (Nat.not_lt_zero _)))).trans rfl
theorem osm_ng (N : Rw) (f : Nat → Nat) : osm N f (ng N) = sm (fun k => if isHd N k = true then f k else 0) 20 := sm_cong (fun i hi => by
  by_cases w : isHd N i = true
  · rw [if_pos w, if_pos ⟨w, idx_ng w⟩]
  · rw [if_neg w, if_neg (fun u => w u.1)])
theorem sm_sw (f : Nat → Nat → Nat) (n : Nat) : ∀ m, sm (fun a => sm (fun b => f a b) n) m = sm (fun b => sm (fun a => f a b) m) n := by
  intro m
  induction m with
  | zero => exact ((sm_out (m := 0) (Nat.zero_le n) (fun c _ hc => rfl)).trans rfl).symm
  | succ m ih =>
    rw [sm, ih, ← sm_add]
    rfl
/-- links of one caption with earlier ones -/
noncomputable def lks (N : Rw) : Nat := sm (fun a => cnt (fun b => lkd N a b) a) 20
theorem lks_up {N : Rw} (hN : InvN N) : sm (fun a => cnt (fun b => decide (a < b) && lkd N a b) 20) 20 = lks N := by
  unfold cnt
  rw [sm_sw (fun a b => b2n (decide (a < b) && lkd N a b)) 20 20]
  refine sm_cong (fun b hb => ?_)
  have e := cnt_cut (fun a => lkd N b a) (show b ≤ 20 by omega)
  rw [← e]
  refine sm_cong (fun a ha => ?_)
  rw [Bool.and_comm, hN.2.2.2.2.2.1 a b ha hb]
theorem m_allLinks {σ : Sg} {N : Rw} (h : MR σ N) : f_MO_allLinks σ = some (nI (lks N), σ) := by
  unfold f_MO_allLinks
  refine lpS (fun n i y => f_MO_allLinks_4 n (nI y) (nI i) σ) 20 (fun a => cnt (fun b => lkd N a b) a) (fun y => some (nI y, σ)) ?_ ?_ FU (by decide)
  · intro n i y hi hy
    show f_MO_allLinks_4 (n + 1) (nI y) (nI i) σ = _
    rw [f_MO_allLinks_4, if_neg (nI_ge hi (by decide))]
    refine Exists.elim (lpI (fun n2 j (_ : Unit) => f_MO_allLinks_12 (fun x1 x2 σ => f_MO_allLinks_4 n x1 x2 σ) n2 (nI (y + cnt (fun b => lkd N i b) j)) (nI i) (nI j) σ) i (fun _ _ => True) ?_ 0 FU () (Nat.zero_le _) (by unfold FU; omega) trivial) ?_
    · intro n2 j _ hj _
      refine ⟨(), trivial, ?_⟩
      show f_MO_allLinks_12 (fun x1 x2 σ => f_MO_allLinks_4 n x1 x2 σ) (n2 + 1) (nI (y + cnt (fun b => lkd N i b) j)) (nI i) (nI j) σ = _
      rw [f_MO_allLinks_12, if_neg (nI_ge hj (by omega)), m_linked h hi (by omega), bd_s, nI_add, lt', nI_add, lt', nI_add, cnt_s]
      cases q : lkd N i j
      · rw [if_pos (by decide)]; rfl
      · rw [if_neg (by decide)]; rfl
    · rintro m ⟨_, -, heq⟩
      refine heq.trans ?_
      show f_MO_allLinks_12 (fun x1 x2 σ => f_MO_allLinks_4 n x1 x2 σ) (m + 1) (nI (y + cnt (fun b => lkd N i b) i)) (nI i) (nI i) σ = _
      rw [f_MO_allLinks_12, if_pos (Int32.le_refl _), nI_add]
  · intro n
    show f_MO_allLinks_4 (n + 1) _ (nI 20) σ = _
    rw [f_MO_allLinks_4, if_pos (Int32.le_refl _)]
theorem s_linksInAll {σ : Sg} {N : Rw} (h : QS σ N) : f_ST_linksInAll σ = some (nI (lks N), σ) := by
  rw [← lks_up h.2.1]
  unfold f_ST_linksInAll
  refine lpS (fun n i y => f_ST_linksInAll_4 n (nI y) (nI i) σ) 20 (fun a => cnt (fun b => decide (a < b) && lkd N a b) 20) (fun y => some (nI y, σ)) ?_ ?_ FU (by decide)
  · intro n i y hi hy
    show f_ST_linksInAll_4 (n + 1) (nI y) (nI i) σ = _
    rw [f_ST_linksInAll_4, if_neg (nI_ge hi (by decide)), nI_add, lt']
    have c0 : cnt (fun b => decide (i < b) && lkd N i b) (i + 1) = 0 := cnt_zero (fun j hj => by rw [decide_eq_false (by omega)]; rfl)
    refine Exists.elim (lpI (fun n2 j (_ : Unit) => f_ST_linksInAll_14 (fun x1 x2 σ => f_ST_linksInAll_4 n x1 x2 σ) n2 (nI (y + cnt (fun b => decide (i < b) && lkd N i b) j)) (nI i) (nI j) σ) 20 (fun j _ => i < j) ?_ (i + 1) FU () (by omega) (by unfold FU; omega) (Nat.lt_succ_self _)) ?_
    · intro n2 j _ hj hij
      refine ⟨(), by omega, ?_⟩
      show f_ST_linksInAll_14 (fun x1 x2 σ => f_ST_linksInAll_4 n x1 x2 σ) (n2 + 1) (nI (y + cnt (fun b => decide (i < b) && lkd N i b) j)) (nI i) (nI j) σ = _
      rw [f_ST_linksInAll_14, if_neg (nI_ge hj (by decide)), r_linked h hi hj, bd_s, nI_add, nI_add, cnt_s, decide_eq_true hij, Bool.true_and]
      cases q : lkd N i j
      · rw [if_pos (by decide)]; rfl
      · rw [if_neg (by decide)]; rfl
    · rintro m ⟨_, -, heq⟩
      rw [c0, Nat.add_zero] at heq
      refine heq.trans ?_
      show f_ST_linksInAll_14 (fun x1 x2 σ => f_ST_linksInAll_4 n x1 x2 σ) (m + 1) (nI (y + cnt (fun b => decide (i < b) && lkd N i b) 20)) (nI i) (nI 20) σ = _
      rw [f_ST_linksInAll_14, if_pos (Int32.le_refl _), nI_add]
  · intro n
    show f_ST_linksInAll_4 (n + 1) _ (nI 20) σ = _
    rw [f_ST_linksInAll_4, if_pos (Int32.le_refl _)]
theorem pts_nh {N : Rw} (hN : InvN N) {g : Nat} (h : isHd N g = false) : pts N g = 0 := by
  unfold pts
  refine (sm_out (m := 0) (Nat.zero_le 36) (fun c _ hc => ?_)).trans rfl
  unfold pw
  refine if_neg (fun w => ?_)
  have h1 := (fc_le hN hc).2 w.1
  have h2 := hd_isHd hN h1
  rw [w.2, h] at h2
  cases h2
theorem s_pointsInAll {σ : Sg} {N : Rw} (hN : InvN N) (hc : CAll N σ) : f_CO_pointsInAll σ = some (nI (sm (fun k => if isHd N k = true then pts N k else 0) 20), σ) := by
  unfold f_CO_pointsInAll
  refine lpS (fun n i y => f_CO_pointsInAll_4 n (nI y) (nI i) σ) 20 (fun k => if isHd N k = true then pts N k else 0) (fun y => some (nI y, σ)) ?_ ?_ FU (by decide)
  · intro n i y hi hy
    show f_CO_pointsInAll_4 (n + 1) (nI y) (nI i) σ = _
    rw [f_CO_pointsInAll_4, if_neg (nI_ge hi (by decide)), inb_n hi (by omega), gd_t, nI_clamp (by omega), (hc.2 i hi).1, nI_add, lt', nI_add]
    cases q : isHd N i
    · rw [pts_nh hN q, if_neg (by decide)]
    · rw [if_pos rfl]
  · intro n
    show f_CO_pointsInAll_4 (n + 1) _ (nI 20) σ = _
    rw [f_CO_pointsInAll_4, if_pos (Int32.le_refl _)]
theorem s_inAll {σ : Sg} {N : Rw} (hN : InvN N) (hs : SAll N σ) : f_SH_inAll σ = some (nI (sm (fun k => if isHd N k = true then ogr N k else 0) 20), σ) := by
  rw [ogr_tot hN]
  unfold f_SH_inAll
  refine lpS (fun n i y => f_SH_inAll_4 n (nI y) (nI i) σ) 20 (fun c => ocp N c) (fun y => some (nI y, σ)) ?_ ?_ FU (by decide)
  · intro n i y hi hy
    show f_SH_inAll_4 (n + 1) (nI y) (nI i) σ = _
    rw [f_SH_inAll_4, if_neg (nI_ge hi (by decide)), inb_n hi (by omega), gd_t, nI_clamp (by omega), hs.2 i hi, nI_add, lt', nI_add]
  · intro n
    show f_SH_inAll_4 (n + 1) _ (nI 20) σ = _
    rw [f_SH_inAll_4, if_pos (Int32.le_refl _)]
theorem s_ballotsCount {σ : Sg} {N : Rw} (hN : InvN N) (hc : CAll N σ) : f_CO_ballotsThatCount σ = some (nI (cnt (fun v => !(decide (fc N (3 * v) = 0))) 12), σ) := by
  unfold f_CO_ballotsThatCount
  refine lpS (fun n i y => f_CO_ballotsThatCount_4 n (nI y) (nI i) σ) 12 (fun v => b2n (!(decide (fc N (3 * v) = 0)))) (fun y => some (nI y, σ)) ?_ ?_ FU (by decide)
  · intro n i y hi hy
    have hf := (fc_le hN (c := 3 * i) (by omega)).1
    show f_CO_ballotsThatCount_4 (n + 1) (nI y) (nI i) σ = _
    rw [f_CO_ballotsThatCount_4, if_neg (nI_ge hi (by decide)), s_cowish hi (by decide) (f := fun k => fc N (3 * i + k)) (hc.1 _ (by omega)), bd_s, nI_add, nI_add, Nat.add_zero]
    by_cases q : fc N (3 * i) = 0
    · rw [if_pos ((wI_5 (by omega)).mpr q), decide_eq_true q]; rfl
    · rw [if_neg (fun w => q ((wI_5 (by omega)).mp w)), decide_eq_false q]; rfl
  · intro n
    show f_CO_ballotsThatCount_4 (n + 1) _ (nI 12) σ = _
    rw [f_CO_ballotsThatCount_4, if_pos (Int32.le_refl _)]
noncomputable def tdd (N : Rw) (k : Nat) : Nat := b2n (decide (1 < td N k))
theorem s_tiedGroups {σ : Sg} {N : Rw} (ho : OAll N σ) : f_OR_tiedGroups σ = some (nI (sm (fun k => if isHd N k = true then tdd N k else 0) 20), σ) := by
  unfold f_OR_tiedGroups
  refine lpS (fun n i y => f_OR_tiedGroups_4 n (nI y) (nI i) σ) 20 (fun k => if isHd N k = true then tdd N k else 0) (fun y => some (nI y, σ)) ?_ ?_ FU (by decide)
  · intro n i y hi hy
    have ht := td_le N i
    show f_OR_tiedGroups_4 (n + 1) (nI y) (nI i) σ = _
    rw [f_OR_tiedGroups_4, if_neg (nI_ge hi (by decide)), inb_n hi (by omega), gd_t, nI_clamp (by omega), (ho.1 i hi).1, nI_add, nI_add]
    cases q : isHd N i
    · rw [if_pos (by decide), if_neg (by decide)]; rfl
    · rw [if_neg (by decide), s_tiedWith ho q, bd_s, if_pos rfl]
      unfold tdd
      by_cases z : 1 < td N i
      · rw [if_neg (nI_ge z (by omega)), decide_eq_true z]; rfl
      · rw [if_pos ((nI_leI (by omega) (by decide)).mpr (by omega)), decide_eq_false z]; rfl
  · intro n
    show f_OR_tiedGroups_4 (n + 1) _ (nI 20) σ = _
    rw [f_OR_tiedGroups_4, if_pos (Int32.le_refl _)]
/-! the reference's sums over the order -/
noncomputable def ovf (N : Rw) (x : Nat) (k : Nat) : Nat := if x = 5 then pts N k else if x = 6 then ogr N k else if x = 10 then tdd N k else 0
theorem m_over123 {σ : Sg} {N : Rw} (h : MR σ N) (hw : WM N σ) (K : Int32 → Int32 → Int32 → Sg → Option (Int32 × Sg)) {x y k : Nat} (hx : x < 100) (hk : isHd N k = true) : f_MO_over_123 K (nI x) (nI y) (nI (idx N k)) (nI (tdd N k)) σ = K (nI x) (nI (y + ovf N x k)) (nI (idx N k + 1)) σ := by
  have hk20 := hd_lt20 hk
  have hix := idx_ng hk
  have hng := ng_le N
  have o := (hw.2.2.1 k hk).2
  have hp := hw.1.2.2.2.2 k hk20
  unfold f_MO_over_123 ovf
  rw [inb_n (by omega) (by omega), gd_t, gd_t, nI_clamp (by omega), o, inb_n hk20 (by omega), gd_t, nI_clamp (by omega), hp.1, m_getsGroup h hw.1.1 hw.2.2.2 hk, bd_s, nI_add, nI_add, nI_add, nI_add, nI_add, lt', lt', lt', lt']
  by_cases q5 : x = 5
  · rw [if_pos (by rw [q5]), if_pos q5]
  · rw [if_neg (nI_ne (by omega) (by decide) q5), if_neg q5]
    by_cases q6 : x = 6
    · rw [if_pos (by rw [q6]), if_pos q6]
    · rw [if_neg (nI_ne (by omega) (by decide) q6), if_neg q6]
      by_cases q10 : x = 10
      · rw [if_pos (by rw [q10]), if_pos q10]
        unfold tdd
        cases decide (1 < td N k)
        · rw [b2n_f, if_pos rfl]
        · rw [b2n_t, if_neg (by decide)]
      · rw [if_neg (nI_ne (by omega) (by decide) q10), if_neg q10]
theorem tdd_nb {N : Rw} {k : Nat} (hk : isHd N k = true) : (∀ y, isHd N y = true → idx N y + 1 = idx N k → (pla N k = pla N y → tdd N k = 1)) ∧ (∀ y, isHd N y = true → idx N y = idx N k + 1 → (pla N k = pla N y → tdd N k = 1)) ∧ ((∀ y, isHd N y = true → idx N y + 1 = idx N k → pla N k ≠ pla N y) → (∀ y, isHd N y = true → idx N y = idx N k + 1 → pla N k ≠ pla N y) → tdd N k = 0) := by
  have ht := td_pos hk
  have hl := tdb_lt hk
  have e : idx N k = ahc N k + tdb N k k := rfl
  have hb := td_ng (N := N) k
  refine ⟨fun y hy h1 h2 => ?_, fun y hy h1 h2 => ?_, fun h1 h2 => ?_⟩
  · have := (blk_iff hy hk).mp ((pla_iff hk hy).mp h2).symm
    unfold tdd
    rw [decide_eq_true (by omega)]; rfl
  · have := (blk_iff hy hk).mp ((pla_iff hk hy).mp h2).symm
    unfold tdd
    rw [decide_eq_true (by omega)]; rfl
  · unfold tdd
    by_cases z : 1 < td N k
    · exfalso
      by_cases w : tdb N k k = 0
      · obtain ⟨y, y1, y2⟩ := idx_sur N (r := idx N k + 1) (by omega)
        exact h2 y y1 y2 ((pla_iff hk y1).mpr ((blk_iff y1 hk).mpr (by omega)).symm)
      · obtain ⟨y, y1, y2⟩ := idx_sur N (r := idx N k - 1) (by omega)
        exact h1 y y1 (by omega) ((pla_iff hk y1).mpr ((blk_iff y1 hk).mpr (by omega)).symm)
    · rw [decide_eq_false z]; rfl
theorem m_over42 {σ : Sg} {N : Rw} (h : MR σ N) (hw : WM N σ) {x b : Nat} (hx : x < 100) : f_MO_over_42 FU (nI x) (nI b) (nI 0) σ = some (nI (b + sm (fun k => if isHd N k = true then ovf N x k else 0) 20), σ) := by
  have hng := ng_le N
  have hn := hw.1.2.1
  refine Exists.elim (lpI (fun n r (_ : Unit) => f_MO_over_42 n (nI x) (nI (b + osm N (ovf N x) r)) (nI r) σ) (ng N) (fun _ _ => True) ?_ 0 FU () (Nat.zero_le _) (by unfold FU; omega) trivial) ?_
  · intro n r _ hr _
    obtain ⟨k, k1, k2⟩ := idx_sur N hr
    subst k2
    have hk20 := hd_lt20 k1
    obtain ⟨t1, t2, t3⟩ := tdd_nb k1
    have go := m_over123 h hw (fun x1 x2 x3 σ => f_MO_over_42 n x1 x2 x3 σ) (x := x) (y := b + osm N (ovf N x) (idx N k)) hx k1
    have o := hw.2.2.1 k k1
    have pk := pla_le N k
    refine ⟨(), trivial, ?_⟩
    show f_MO_over_42 (n + 1) (nI x) (nI (b + osm N (ovf N x) (idx N k))) (nI (idx N k)) σ = f_MO_over_42 n (nI x) (nI (b + osm N (ovf N x) (idx N k + 1))) (nI (idx N k + 1)) σ
    rw [osm_s _ k1, ← Nat.add_assoc, ← go, f_MO_over_42, hn, if_neg (nI_ge hr (by omega))]
    have e81 : (∀ y, isHd N y = true → idx N y + 1 = idx N k → pla N k ≠ pla N y) → f_MO_over_81 (fun x1 x2 x3 σ => f_MO_over_42 n x1 x2 x3 σ) (nI x) (nI (b + osm N (ovf N x) (idx N k))) (nI (idx N k)) σ = f_MO_over_123 (fun x1 x2 x3 σ => f_MO_over_42 n x1 x2 x3 σ) (nI x) (nI (b + osm N (ovf N x) (idx N k))) (nI (idx N k)) (nI (tdd N k)) σ := by
      intro hp
      unfold f_MO_over_81
      rw [nI_add, hn]
      by_cases z : idx N k + 1 < ng N
      · obtain ⟨y, y1, y2⟩ := idx_sur N z
        have oy := hw.2.2.1 y y1
        have py := pla_le N y
        have y20 := hd_lt20 y1
        rw [y2] at oy
        rw [if_neg (nI_ge z (by omega)), inb_n (by omega) (by omega), gd_t, nI_clamp (by omega), o.2, inb_n hk20 (by omega), gd_t, inb_n (by omega) (by omega), gd_t, nI_clamp (by omega), oy.2, inb_n y20 (by omega), gd_t, nI_clamp (by omega), nI_clamp (by omega), o.1, oy.1]
        by_cases w : pla N k = pla N y
        · rw [if_pos (by rw [w]), t2 y y1 y2 w]
        · rw [if_neg (nI_ne (by omega) (by omega) w), t3 hp (fun u u1 u2 => by rw [idx_inj (hd_lt20 u1) y20 u1 y1 (by omega)]; exact w)]
      · rw [if_pos ((nI_leI (by omega) (by omega)).mpr (by omega)), t3 hp (fun u u1 u2 => by have := idx_ng u1; omega)]
    by_cases z : idx N k = 0
    · rw [if_pos (by rw [z]; exact Int32.le_refl _)]
      exact e81 (fun y y1 y2 => by omega)
    · obtain ⟨y, y1, y2⟩ := idx_sur N (r := idx N k - 1) (by omega)
      have oy := hw.2.2.1 y y1
      have py := pla_le N y
      have y20 := hd_lt20 y1
      rw [y2] at oy
      rw [if_neg (nI_ge (by omega) (by omega)), inb_n (by omega) (by omega), gd_t, nI_clamp (by omega), o.2, inb_n hk20 (by omega), gd_t, mI_sub, mI_s z, inb_n (by omega) (by omega), gd_t, nI_clamp (by omega), oy.2, inb_n y20 (by omega), gd_t, nI_clamp (by omega), nI_clamp (by omega), o.1, oy.1]
      by_cases w : pla N k = pla N y
      · rw [if_pos (by rw [w]), t1 y y1 (by omega) w]
      · rw [if_neg (nI_ne (by omega) (by omega) w)]
        exact e81 (fun u u1 u2 => by rw [idx_inj (hd_lt20 u1) y20 u1 y1 (by omega)]; exact w)
  · rintro m ⟨_, -, heq⟩
    rw [osm_0, Nat.add_zero, osm_ng] at heq
    refine heq.trans ?_
    rw [f_MO_over_42, hn, if_pos (Int32.le_refl _)]
theorem m_over {σ : Sg} {N : Rw} (h : MR σ N) (hw : WM N σ) {x : Nat} (hx : x < 100) : f_MO_over (nI x) σ = some (nI ((if x = 4 then cnt (fun v => !(decide (fc N (3 * v) = 0))) 12 else 0) + sm (fun k => if isHd N k = true then ovf N x k else 0) 20), σ) := by
  unfold f_MO_over
  by_cases q : x = 4
  · rw [if_pos q]
    refine lpS (fun n i y => f_MO_over_4 n (nI x) (nI y) (nI i) σ) 12 (fun v => b2n (!(decide (fc N (3 * v) = 0)))) (fun y => some (nI (y + sm (fun k => if isHd N k = true then ovf N x k else 0) 20), σ)) ?_ ?_ FU (by decide)
    · intro n i y hi hy
      have hf := (fc_le h.2 (c := 3 * i) (by omega)).1
      show f_MO_over_4 (n + 1) (nI x) (nI y) (nI i) σ = _
      rw [f_MO_over_4, if_neg (nI_ge hi (by decide)), if_pos (by rw [q]), nI_mul, inb_n (by omega) (by omega), gd_t, nI_clamp (by omega), hw.1.2.2.2.1 _ (by omega), nI_add, lt', nI_add, lt', nI_add]
      by_cases z : fc N (3 * i) = 0
      · rw [if_pos ((mI_neg (by omega)).mpr z), decide_eq_true z]; rfl
      · rw [if_neg (fun w => z ((mI_neg (by omega)).mp w)), decide_eq_false z]; rfl
    · intro n
      show f_MO_over_4 (n + 1) (nI x) _ (nI 12) σ = _
      rw [f_MO_over_4, if_pos (Int32.le_refl _), m_over42 h hw hx]
  · rw [if_neg q]
    show f_MO_over_4 (19999 + 1) (nI x) (nI 0) (nI 0) σ = _
    rw [f_MO_over_4, if_neg (nI_ge (by decide) (by decide)), if_neg (nI_ne (by omega) (by decide) q), m_over42 h hw hx]
end CNT
