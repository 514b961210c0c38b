/-! questions -/
def QC : List Nat := [82, 83, 84, 85, 86, 87, 88, 89, 90, 91, 92, 93, 94, 95, 96, 97, 98, 99, 100, 101, 102, 103, 104, 105, 106, 107, 108, 109, 110]
def QM : List Nat := [112, 117, 118, 119, 120, 121, 122, 123, 124, 125, 126, 127, 128, 129, 130, 131, 132]
theorem One.q {f g : Sg → Option (Int32 × Sg)} {A : Ab} (hA : OKA A) (r : Int32) (hc : ∀ σ, CI A σ → ∃ y, f σ = some (r, y) ∧ Fr QC σ y) (hr : ∀ σ, RI A σ → ∃ z, g σ = some (r, z) ∧ Fr QM σ z ∧ ∀ i, i ≠ 23 → z 112 i = σ 112 i) : One f g A := by
  refine ⟨A, r, hA, fun σ h => ?_, fun σ h => ?_⟩
  · obtain ⟨y, y1, y2⟩ := hc σ h
    exact ⟨y, y1, h.fr hA y2 (by decide), fun c hc => y2 c (by simp [QC]; omega)⟩
  · obtain ⟨z, z1, z2, z3⟩ := hr σ h
    exact ⟨z, z1, h.fr z2 (by decide) z3, fun c hc => z2 c (by simp [QM]; omega)⟩
section ASK
theorem Fr.at' {L : List Nat} {σ y : Sg} (h : Fr L σ y) (c : Nat) (hc : L.all (fun x => !(x == c)) = true) : y c = σ c := h c (fun q => by
  have := List.all_eq_true.mp hc c q
  simp at this)
theorem c_tally {A : Ab} {σ : Sg} (hA : OKA A) (h : CI A σ) : ∃ y, f_CT_tally σ = some (0, y) ∧ Fr QC σ y ∧ WC A.N y := by
  have q0 := h.qs hA
  obtain ⟨a, a1, a2, a3, a4⟩ := g_find q0
  have qa := q0.fr a2 (by decide)
  obtain ⟨b, b1, b2, b3⟩ := s_coFill qa a3
  have qb := qa.fr b2 (by decide)
  have hb : HC b A.N := HC.fr a3 b2 (by decide)
  obtain ⟨c, c1, c2, c3⟩ := s_raFill qb hb
  have qc := qb.fr c2 (by decide)
  have hc := hb.fr c2 (by decide)
  have n3 : c 82 2 = nI (ng A.N) := by rw [c2.at' 82 (by decide), b2.at' 82 (by decide)]; exact a4
  obtain ⟨d, d1, d2, d3⟩ := s_play qc hc c3 n3
  have qd := qc.fr d2 (by decide)
  have hd' := hc.fr d2 (by decide)
  have cd : CAll A.N d := ⟨fun k hk => by rw [d2.at' 86 (by decide), c2.at' 86 (by decide)]; exact b3.1 k hk, fun k hk => by rw [d2.at' 87 (by decide), c2.at' 87 (by decide), d2.at' 88 (by decide), c2.at' 88 (by decide)]; exact b3.2 k hk⟩
  have rd : RAll A.N d := ⟨fun j k hj hk => by rw [d2.at' 90 (by decide)]; exact c3.1 j k hj hk, fun j k hj hk => by rw [d2.at' 91 (by decide)]; exact c3.2.1 j k hj hk, fun k hk => by rw [d2.at' 92 (by decide)]; exact c3.2.2 k hk⟩
  obtain ⟨e, e1, e2, e3⟩ := s_fillKeys qd hd' cd rd d3
  obtain ⟨f, f1, f2, f3⟩ := s_orFill e3
  have qf := (qd.fr e2 (by decide)).fr f2 (by decide)
  have hf := (hd'.fr e2 (by decide)).fr f2 (by decide)
  obtain ⟨g, g1, g2, g3⟩ := s_shFill qf hf f3
  unfold f_CT_tally
  rw [a1, bd_s, b1, bd_s, c1, bd_s, d1, bd_s, e1, bd_s, f1, bd_s, g1, bd_s]
  have t : ∀ c, c ≠ 101 → c ≠ 102 → c ≠ 103 → c ≠ 104 → c ≠ 106 → c ≠ 107 → g c = d c := fun c k1 k2 k3 k4 k5 k6 => by
    rw [g2 c (by simp; omega), f2 c (by simp; omega), e2 c (by simp; omega)]
  refine ⟨g, rfl, ((((((a2.mono (by decide)).tr (b2.mono (by decide))).tr (c2.mono (by decide))).tr (d2.mono (by decide))).tr (e2.mono (by decide))).tr (f2.mono (by decide))).tr (g2.mono (by decide)), hf.fr g2 (by decide), ?_, ⟨fun k hk => ?_, fun k hk => ?_⟩, ⟨fun j k hj hk => ?_, fun j k hj hk => ?_, fun k hk => ?_⟩, ⟨?_, fun r hr => ?_, fun k hk => ?_⟩, f3.fr g2 (by decide), g3⟩
  · rw [t 82 (by decide) (by decide) (by decide) (by decide) (by decide) (by decide), d2.at' 82 (by decide)]; exact n3
  · rw [t 86 (by decide) (by decide) (by decide) (by decide) (by decide) (by decide)]; exact cd.1 k hk
  · rw [t 87 (by decide) (by decide) (by decide) (by decide) (by decide) (by decide), t 88 (by decide) (by decide) (by decide) (by decide) (by decide) (by decide)]; exact cd.2 k hk
  · rw [t 90 (by decide) (by decide) (by decide) (by decide) (by decide) (by decide)]; exact rd.1 j k hj hk
  · rw [t 91 (by decide) (by decide) (by decide) (by decide) (by decide) (by decide)]; exact rd.2.1 j k hj hk
  · rw [t 92 (by decide) (by decide) (by decide) (by decide) (by decide) (by decide)]; exact rd.2.2 k hk
  · rw [t 93 (by decide) (by decide) (by decide) (by decide) (by decide) (by decide)]; exact d3.1
  · rw [t 97 (by decide) (by decide) (by decide) (by decide) (by decide) (by decide), t 98 (by decide) (by decide) (by decide) (by decide) (by decide) (by decide), t 99 (by decide) (by decide) (by decide) (by decide) (by decide) (by decide)]; exact d3.2.1 r hr
  · rw [t 96 (by decide) (by decide) (by decide) (by decide) (by decide) (by decide)]; exact d3.2.2 k hk
theorem m_worksQ {A : Ab} {σ : Sg} (hA : OKA A) (h : RI A σ) : ∃ z, f_MO_works σ = some (0, z) ∧ Fr QM σ z ∧ (∀ i, i ≠ 23 → z 112 i = σ 112 i) ∧ WM A.N z := by
  obtain ⟨z, z1, z2, z3, z4⟩ := m_works (h.mr hA)
  exact ⟨z, z1, z2.mono (by decide), z3, z4⟩
theorem m_headsQ {A : Ab} {σ : Sg} (hA : OKA A) (h : RI A σ) : ∃ z, f_MO_heads σ = some (0, z) ∧ Fr QM σ z ∧ (∀ i, i ≠ 23 → z 112 i = σ 112 i) ∧ HM z A.N ∧ CoreOK z A.N ∧ MR z A.N := by
  obtain ⟨z, z1, z2, z3, z4, z5, z6⟩ := m_heads (h.mr hA)
  exact ⟨z, z1, z2.mono (by decide), z5, z3, z6, (h.mr hA).fr z2 (by decide)⟩
theorem inn_arg {N : Rw} {x : Int32} (hN : InvN N) (q : inn N (plc 20 x) = true) : ∃ c, c < 20 ∧ c < ev N ∧ x = nI c ∧ inn N c = true := by
  have h := hN.in_lt q
  exact ⟨plc 20 x, h.1, h.2, plc_lt (by decide) h.1, q⟩
theorem op_distance (x1 x2 : Int32) : Ok2 (f_CT_distance x1 x2) (f_MO_distance x1 x2) := Ok2.mk (fun A hA => by
  show One _ _ A
  cases q : inn A.N (plc 20 x1)
  · refine One.same hA (-1) (fun σ h => ?_) (fun σ h => ?_)
    · unfold f_CT_distance; rw [r_isIn (h.qs hA), bd_s, q, bI_f, if_pos rfl]
    · unfold f_MO_distance; rw [m_is (h.mr hA), bd_s, q, bI_f, if_pos rfl]
  cases q2 : inn A.N (plc 20 x2)
  · refine One.same hA (-1) (fun σ h => ?_) (fun σ h => ?_)
    · unfold f_CT_distance; rw [r_isIn (h.qs hA), bd_s, q, if_neg (by decide), r_isIn (h.qs hA), bd_s, q2, bI_f, if_pos rfl]
    · unfold f_MO_distance; rw [m_is (h.mr hA), bd_s, q, if_neg (by decide), m_is (h.mr hA), bd_s, q2, bI_f, if_pos rfl]
  obtain ⟨a, a1, a2, a3, a4⟩ := inn_arg hA.1 q
  obtain ⟨b, b1, b2, b3, b4⟩ := inn_arg hA.1 q2
  subst a3
  subst b3
  refine One.q hA (nI (dI A.N a b)) (fun σ h => ?_) (fun σ h => ?_)
  · obtain ⟨y, y1, y2⟩ := s_between (h.qs hA) a2 b2
    exact ⟨y, by unfold f_CT_distance; rw [r_isIn (h.qs hA), bd_s, q, if_neg (by decide), r_isIn (h.qs hA), bd_s, q2, if_neg (by decide), y1, bd_s], y2.mono (by decide)⟩
  · obtain ⟨y, y1, y2, y3⟩ := m_takes (h.mr hA)
    obtain ⟨z, z1, z2⟩ := m_far hA.1 y3 a2 b2
    exact ⟨z, by unfold f_MO_distance; rw [m_is (h.mr hA), bd_s, q, if_neg (by decide), m_is (h.mr hA), bd_s, q2, if_neg (by decide), y1, bd_s, z1, bd_s], (y2.mono (by decide)).tr (z2.mono (by decide)), fun i _ => by rw [z2.at' 112 (by decide), y2.at' 112 (by decide)]⟩)
theorem op_letter (x1 x2 : Int32) : Ok2 (f_CT_letter x1 x2) (f_MO_letter x1 x2) := Ok2.mk (fun A hA => by
  show One _ _ A
  cases q : inn A.N (plc 20 x1)
  · refine One.same hA (-1) (fun σ h => ?_) (fun σ h => ?_)
    · unfold f_CT_letter; rw [r_isIn (h.qs hA), bd_s, q, bI_f, if_pos rfl]
    · unfold f_MO_letter; rw [m_is (h.mr hA), bd_s, q, bI_f, if_pos rfl]
  obtain ⟨a, a1, a2, a3, a4⟩ := inn_arg hA.1 q
  subst a3
  rcases i32c x2 with n2 | ⟨k, hk, rfl⟩
  · have ng0 : ¬ (nI 0 : Int32) ≤ x2 := fun w => absurd n2 (Int32.not_lt.mpr w)
    refine One.same hA (-2) (fun σ h => ?_) (fun σ h => ?_)
    · unfold f_CT_letter; rw [r_isIn (h.qs hA), bd_s, q, if_neg (by decide), if_neg ng0]
    · unfold f_MO_letter; rw [m_is (h.mr hA), bd_s, q, if_neg (by decide), if_neg ng0]
  have h0 : (nI 0 : Int32) ≤ nI k := (nI_leI (by decide) hk).mpr (Nat.zero_le _)
  have hl := hA.1.2.2.2.1 a a2
  refine One.same hA (if k < lng A.N a then txt A.N a k else -5) (fun σ h => ?_) (fun σ h => ?_)
  · unfold f_CT_letter
    rw [r_isIn (h.qs hA), bd_s, q, if_neg (by decide), if_pos h0, r_textlet (h.qs hA) a2, bd_s]
    by_cases z : k < lng A.N a
    · rw [if_pos z, plc_nI (by omega) z, if_pos z]
    · rw [if_neg z, if_neg (fun w => by
        have e := plc_lt (by omega) w
        have := (nI_eq hk (by omega)).mp e
        omega)]
  · unfold f_MO_letter
    rw [m_is (h.mr hA), bd_s, q, if_neg (by decide), if_pos h0, nI_add, inb_n (by omega) (by omega), gd_t, nI_clamp (by omega), h.1 _ (by omega), hl.1]
    by_cases z : k < lng A.N a
    · rw [if_pos z, if_neg (nI_ge z (by omega)), m_sign (h.mr hA) a1 (by omega), bd_s]
    · rw [if_neg z, if_pos ((nI_leI (by omega) hk).mpr (by omega))])
theorem op_near (x1 x2 : Int32) : Ok2 (f_CT_near x1 x2) (f_MO_near x1 x2) := Ok2.mk (fun A hA => by
  show One _ _ A
  rcases i32c x1 with n1 | ⟨L, hL, rfl⟩
  · refine One.same hA (-2) (fun σ h => ?_) (fun σ h => ?_)
    · unfold f_CT_near; rw [if_pos n1]
    · unfold f_MO_near; rw [if_pos n1]
  by_cases q : plc 3 x2 < 3
  case neg =>
    refine One.same hA (-2) (fun σ h => ?_) (fun σ h => ?_)
    · unfold f_CT_near; rw [if_neg (neg0 hL), s_idx _ _ _ (by decide), bd_s, decide_eq_false q, bI_f, if_pos rfl]
    · unfold f_MO_near; rw [if_neg (neg0 hL), m_inP σ x2 2 (by decide), bd_s, decide_eq_false q, bI_f, if_pos rfl]
  obtain ⟨w, hw, e1⟩ : ∃ k, k < 3 ∧ x2 = nI k := ⟨plc 3 x2, q, plc_lt (by decide) q⟩
  subst e1
  refine One.q hA (match sel A.N L with | some (d, p) => npa w d p | none => -5) (fun σ h => ?_) (fun σ h => ?_)
  · obtain ⟨a, a1, a2, a3, a4⟩ := g_find (h.qs hA)
    obtain ⟨b, b1, b2, b3⟩ := s_diFill ((h.qs hA).fr a2 (by decide)) a3
    refine ⟨b, ?_, (a2.mono (by decide)).tr (b2.mono (by decide))⟩
    unfold f_CT_near
    rw [if_neg (neg0 hL), s_idx _ _ _ (by decide), bd_s, decide_eq_true q, if_neg (by decide), a1, bd_s, b1, bd_s, s_pairAt hA.1 b3 hL, bd_s]
    cases es : sel A.N L with
    | none => dsimp only; rw [if_pos rfl]
    | some dp =>
      obtain ⟨d, p⟩ := dp
      obtain ⟨k1, k2, k3⟩ := sel_ok es
      have hv : nv A.N p = d + 1 := of_decide_eq_true k3
      dsimp only
      rw [if_neg (neI (by omega) (by decide))]
      unfold npa
      by_cases w0 : w = 0
      · rw [if_pos (by rw [w0]), if_pos w0, nz_n (by decide) (by decide), gd_t, nI_div (by omega) (by decide) (by decide)]
      · rw [if_neg (fun z => w0 ((nI_eq (by omega) (by decide)).mp z)), if_neg w0]
        by_cases w1 : w = 1
        · rw [if_pos (by rw [w1]), if_pos w1, nz_n (by decide) (by decide), gd_t, nI_rem (by omega) (by decide) (by decide)]
        · rw [if_neg (fun z => w1 ((nI_eq (by omega) (by decide)).mp z)), if_neg w1]
          unfold f_DI_ofPair
          rw [s_at _ _ _ _ k1 (by decide), bd_s, bd_s, b3 p k1, hv]
          rfl
  · obtain ⟨z, z1, z2, z3, z4, z5, z6⟩ := m_headsQ hA h
    obtain ⟨u, u1, u2⟩ := m_nearAll z6 z4 z5 hw hL
    refine ⟨u, ?_, z2.tr (u2.mono (by decide)), fun i hi => by rw [u2.at' 112 (by decide)]; exact z3 i hi⟩
    unfold f_MO_near
    rw [if_neg (neg0 hL), m_inP σ _ 2 (by decide), bd_s, decide_eq_true q, if_neg (by decide), z1, bd_s]
    exact u1)
end ASK
