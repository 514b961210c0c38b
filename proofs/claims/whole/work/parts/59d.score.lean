theorem One.chg2 {f g : Sg → Option (Int32 × Sg)} {A : Ab} (hA : OKA A) (N' : Rw) (r : Int32) (hN : InvN N')
    (hc : ∀ σ y, CI A σ → f_HI_record σ = some (0, y) → HF σ y → CI A.rec' y → ∃ x z, RelS (fun k => x k) N' ∧ (∀ c, 13 ≤ c → x c = y c) ∧ (QS x N' → f σ = some (r, z) ∧ Fr QC x z))
    (hr : ∀ σ y, RI A σ → f_MO_record σ = some (0, y) → Fr [112, 115] σ y → RI A.rec' y → ∃ x z, (∀ i, i < 1385 → x 113 i = N' i) ∧ (∀ c, c ≠ 113 → x c = y c) ∧ g σ = some (r, z) ∧ Fr QM x z ∧ ∀ i, i ≠ 23 → z 112 i = x 112 i) : One f g A := by
  refine ⟨(N', A.rec'.2), r, ⟨hN, hA.rec'.2⟩, fun σ h => ?_, fun σ h => ?_⟩
  · obtain ⟨y, y1, y2, y3⟩ := c_record hA h
    obtain ⟨x, z, z1, z2, z3⟩ := hc σ y h y1 y2 y3
    obtain ⟨z4, z5⟩ := z3 ⟨trivial, hN, z1⟩
    have cx : CI (N', A.rec'.2) x := CI.cur hA.rec' y3 (fun c hc => z2 c (by omega)) z1
    exact ⟨z, z4, cx.fr ⟨hN, hA.rec'.2⟩ z5 (by decide), fun c hc => ((z5 c (by simp [QC]; omega)).trans (z2 c (by omega))).trans (y2 c (by omega))⟩
  · obtain ⟨y, y1, y2, y3, y4⟩ := m_record hA h
    obtain ⟨x, z, z1, z2, z3, z4, z5⟩ := hr σ y h y1 y2 y4
    have rx : RI (N', A.rec'.2) x := RI.cur y4 (fun c hc => z2 c (by omega)) z1
    exact ⟨z, z3, rx.fr z4 (by decide) z5, fun c hc => ((z4 c (by simp [QM]; omega)).trans (z2 c (by omega))).trans (y2 c (by simp; omega))⟩
section SCO
theorem inv_ptc {N : Rw} (h : InvN N) {i v : Nat} (hi : i < 60) (hv : v ≤ 11) : InvN (upd N (1325 + i) (nI v)) := by
  have e : ∀ j, j ≠ 1325 + i → upd N (1325 + i) (nI v) j = N j := fun j hj => upd_n _ _ hj
  have l := st_lk h (N' := upd N (1325 + i) (nI v)) (fun c hc => e _ (by omega))
  have w := st_w h (N' := upd N (1325 + i) (nI v)) (fun c hc => e _ (by omega))
  have s := st_s h (N' := upd N (1325 + i) (nI v)) (fun c hc => e _ (by omega))
  refine InvN.up h (fun j hj => e j (by omega)) (st_in h (fun c hc => e _ (by omega))) l.1 l.2.1 l.2.2 w.1 w.2 (fun j hj => ?_) s.1 s.2 (st_z h (fun c hc => e _ (by omega)))
  unfold ptc
  by_cases z : j = i
  · rw [z, upd_s, vN_nI (by omega)]; exact ⟨rfl, hv⟩
  · rw [e _ (by omega)]; exact h.2.2.2.2.2.2.2.2.2.1 j hj
theorem op_score (x1 x2 x3 : Int32) : Ok2 (f_CT_score x1 x2 x3) (f_MO_score x1 x2 x3) := Ok2.mk (fun A hA => by
  show One _ _ A
  by_cases q : plc 3 x1 < 3
  case neg =>
    refine One.same hA (-1) (fun σ h => ?_) (fun σ h => ?_)
    · unfold f_CT_score; rw [s_idx _ _ _ (by decide), bd_s, decide_eq_false q, bI_f, if_pos rfl]
    · unfold f_MO_score; rw [m_inP σ x1 2 (by decide), bd_s, decide_eq_false q, bI_f, if_pos rfl]
  obtain ⟨j, hj, e1⟩ := ix3 (by decide) q
  subst e1
  cases q2 : inn A.N (plc 20 x2)
  · refine One.same hA (-1) (fun σ h => ?_) (fun σ h => ?_)
    · unfold f_CT_score; rw [s_idx _ _ _ (by decide), bd_s, decide_eq_true q, if_neg (by decide), r_isIn (h.qs hA), bd_s, q2, bI_f, if_pos rfl]
    · unfold f_MO_score; rw [m_inP σ _ 2 (by decide), bd_s, decide_eq_true q, if_neg (by decide), m_is (h.mr hA), bd_s, q2, bI_f, if_pos rfl]
  obtain ⟨c, c1, c2, c3, c4⟩ := inn_arg hA.1 q2
  subst c3
  have cs : ∀ σ, CI A σ → f_CT_score (nI j) (nI c) x3 σ = if x3 < nI 0 then some (-2, σ) else if x3 ≤ nI 10 then bd (f_ST_pointsBy (nI j) (nI c) σ) fun r9 σ10 => if r9 = x3 then some (-5, σ10) else bd (f_HI_record σ10) fun r12 σ13 => bd (f_ST_givePoints (nI j) (nI c) x3 σ13) fun r14 σ15 => bd (f_GR_find σ15) fun r16 σ17 => bd (f_RA_fill σ17) fun r18 σ19 => bd (f_GR_headOf (nI c) σ19) fun r20 σ21 => bd (f_RA_rankBy (nI j) r20 σ21) fun r22 σ23 => some (r22, σ23) else some (-2, σ) := by
    intro σ h
    unfold f_CT_score
    rw [s_idx _ _ _ (by decide), bd_s, decide_eq_true q, if_neg (by decide), r_isIn (h.qs hA), bd_s, q2, if_neg (by decide)]
  have ms : ∀ σ, RI A σ → f_MO_score (nI j) (nI c) x3 σ = bd (f_MO_in x3 (nI 0) (nI 10) σ) fun r7 σ8 => if r7 = nI 0 then some (-2, σ8) else lt' (nI (1325 + 20 * j + c)) fun v10 => gd (inb v10 1385) <| if σ8 113 v10.toNatClampNeg = x3 + nI 1 then some (-5, σ8) else bd (f_MO_record σ8) fun r13 σ14 => gd (inb v10 1385) <| lt' (up σ14 113 v10.toNatClampNeg (x3 + nI 1)) fun σ16 => bd (f_MO_heads σ16) fun r17 σ18 => gd (inb (nI c) 20) <| bd (f_MO_rank (nI j) (σ18 117 (nI c).toNatClampNeg) σ18) fun r20 σ21 => some (r20, σ21) := by
    intro σ h
    unfold f_MO_score
    rw [m_inP σ _ 2 (by decide), bd_s, decide_eq_true q, if_neg (by decide), m_is (h.mr hA), bd_s, q2, if_neg (by decide), nI_mul, nI_add, nI_add]
  rcases i32c x3 with n3 | ⟨v, hv, rfl⟩
  · refine One.same hA (-2) (fun σ h => ?_) (fun σ h => ?_)
    · rw [cs σ h, if_pos n3]
    · rw [ms σ h, m_inNeg σ (by decide) n3, bd_s, bI_f, if_pos rfl]
  by_cases q3 : v ≤ 10
  case neg =>
    refine One.same hA (-2) (fun σ h => ?_) (fun σ h => ?_)
    · rw [cs σ h, if_neg (neg0 hv), if_neg (fun w => q3 ((nI_leI hv (by decide)).mp w))]
    · rw [ms σ h, m_inN σ v 0 10 hv (by decide) (by decide), decide_eq_false (p := v ≤ 10) q3, Bool.and_false, bd_s, bI_f, if_pos rfl]
  have hp := hA.1.2.2.2.2.2.2.2.2.2.1 (20 * j + c) (by omega)
  have ms2 : ∀ σ, RI A σ → f_MO_score (nI j) (nI c) (nI v) σ = if nI (ptc A.N (20 * j + c)) = nI (v + 1) then some (-5, σ) else bd (f_MO_record σ) fun r13 σ14 => lt' (up σ14 113 (1325 + (20 * j + c)) (nI (v + 1))) fun σ16 => bd (f_MO_heads σ16) fun r17 σ18 => gd (inb (nI c) 20) <| bd (f_MO_rank (nI j) (σ18 117 (nI c).toNatClampNeg) σ18) fun r20 σ21 => some (r20, σ21) := by
    intro σ h
    rw [ms σ h, m_inN σ v 0 10 hv (by decide) (by decide), decide_eq_true q3, decide_eq_true (Nat.zero_le _), bd_s, if_neg (by decide), lt', inb_n (by omega) (by omega), gd_t, nI_clamp (by omega), nI_add, show 1325 + 20 * j + c = 1325 + (20 * j + c) by omega, h.1 _ (by omega), hp.1]
    rfl
  by_cases q4 : ptc A.N (20 * j + c) = v + 1
  · refine One.same hA (-5) (fun σ h => ?_) (fun σ h => ?_)
    · rw [cs σ h, if_neg (neg0 hv), if_pos ((nI_leI hv (by decide)).mpr q3), r_points (h.qs hA) hj c1, bd_s, if_pos ((wI_v (by omega) (by omega)).mpr q4)]
    · rw [ms2 σ h, if_pos (by rw [q4])]
  have hN := inv_ptc hA.1 (i := 20 * j + c) (v := v + 1) (by omega) (by omega)
  have ci : inn (upd A.N (1325 + (20 * j + c)) (nI (v + 1))) c = true := by rw [inn_cg (N := A.N) (fun _ => upd_n _ _ (by omega))]; exact c4
  have hh := hd_isHd hN ci
  have h20 := hd_lt20 hh
  refine One.chg2 hA _ (nI (rk (upd A.N (1325 + (20 * j + c)) (nI (v + 1))) j (hd (upd A.N (1325 + (20 * j + c)) (nI (v + 1))) c))) hN (fun σ y h h1 h2 h3 => ?_) (fun σ y h h1 h2 h3 => ?_)
  · have r := h3.1
    have e : ∀ i, i ≠ 1325 + (20 * j + c) → upd A.N (1325 + (20 * j + c)) (nI (v + 1)) i = A.N i := fun i hi => upd_n _ _ hi
    have rel : RelS (fun k => up y 10 (20 * j + c) (nI v) k) (upd A.N (1325 + (20 * j + c)) (nI (v + 1))) := by
      refine RelS.up (S := fun k => y k) r hA.1 (fun i hi => upd_n _ _ (by omega)) (fun k hk => up_n _ _ _ (by omega)) (rs_1 r (fun c hc => e _ (by omega)) (up_n _ _ _ (by decide))) (rs_8 r (fun c hc => e _ (by omega)) (up_n _ _ _ (by decide))) (rs_9 r (fun c hc => e _ (by omega)) (up_n _ _ _ (by decide))) (fun i hi => ?_) (rs_11 r (fun c hc => e _ (by omega)) (up_n _ _ _ (by decide))) (rs_12 r (fun c hc => e _ (by omega)) (up_n _ _ _ (by decide)))
      show up y 10 (20 * j + c) (nI v) 10 i = _
      rw [up_s]
      unfold ptc
      by_cases z : i = 20 * j + c
      · rw [z, upd_s, upd_s, vN_nI (by omega)]; rfl
      · rw [upd_n _ _ z, e _ (by omega)]; exact r.2.2.2.2.2.2.2.2.2.2.1 i hi
    have qx : QS (up y 10 (20 * j + c) (nI v)) (upd A.N (1325 + (20 * j + c)) (nI (v + 1))) := ⟨trivial, hN, rel⟩
    obtain ⟨a, a1, a2, a3, a4⟩ := g_find qx
    obtain ⟨b, b1, b2, b3⟩ := s_raFill (qx.fr a2 (by decide)) a3
    have hb : HC b _ := HC.fr a3 b2 (by decide)
    refine ⟨up y 10 (20 * j + c) (nI v), b, rel, fun k hk => up_n _ _ _ (by omega), fun _ => ⟨?_, (a2.mono (by decide)).tr (b2.mono (by decide))⟩⟩
    rw [cs σ h, if_neg (neg0 hv), if_pos ((nI_leI hv (by decide)).mpr q3), r_points (h.qs hA) hj c1, bd_s, if_neg (fun w => q4 ((wI_v (by omega) (by omega)).mp w)), h1, bd_s]
    unfold f_ST_givePoints
    rw [nI_mul, nI_add, show j * 20 + c = 20 * j + c by omega, s_put _ _ _ _ _ (by omega) (by decide), bd_s, bd_s, a1, bd_s, b1, bd_s, s_headN hb c1, bd_s, hdc_in ci, s_rankBy b3 hj hh, bd_s]
  · have mx : MR (up y 113 (1325 + (20 * j + c)) (nI (v + 1))) (upd A.N (1325 + (20 * j + c)) (nI (v + 1))) := by
      refine ⟨fun i hi => ?_, hN⟩
      rw [up_s]
      by_cases z : i = 1325 + (20 * j + c)
      · rw [z, upd_s, upd_s]
      · rw [upd_n _ _ z, upd_n _ _ z]; exact h3.1 i hi
    obtain ⟨z, z1, z2, z3, z4, z5, z6⟩ := m_heads mx
    refine ⟨_, z, mx.1, fun k hk => up_n _ _ _ hk, ?_, z2.mono (by decide), z5⟩
    rw [ms2 σ h, if_neg (nI_ne (by omega) (by omega) q4), h1, bd_s, lt', z1, bd_s, inb_n c1 (by omega), gd_t, nI_clamp (by omega), z3 c c1, hdm_in ci, m_rank (mx.fr z2 (by decide)) z3 hj h20, bd_s])
end SCO
