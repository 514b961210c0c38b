/-! rows of a state that stay -/
section RSS
variable {S S' : Nat → Rw} {N N' : Rw}
theorem rs_1 (r : RelS S N) (e : ∀ c, c < 20 → N' (29 + c) = N (29 + c)) (eS : S' 1 = S 1) : ∀ c, c < 20 → S' 1 c = N' (29 + c) := fun c hc => by rw [eS, e c hc]; exact r.2.1 c hc
theorem rs_8 (r : RelS S N) (e : ∀ c, c < 20 → N' (49 + c) = N (49 + c)) (eS : S' 8 = S 8) : ∀ a b, a < 20 → b < 20 → S' 8 (20 * a + b) = bI (lkd N' a b) := fun a b ha hb => by rw [eS, lkd_cg (e a ha)]; exact r.2.2.2.2.2.2.2.2.1 a b ha hb
theorem rs_9 (r : RelS S N) (e : ∀ i, i < 36 → N' (1289 + i) = N (1289 + i)) (eS : S' 9 = S 9) : ∀ i, i < 36 → S' 9 i = wI (wsc N' i) := fun i hi => by rw [eS, show wsc N' i = wsc N i by unfold wsc; rw [e i hi]]; exact r.2.2.2.2.2.2.2.2.2.1 i hi
theorem rs_10 (r : RelS S N) (e : ∀ i, i < 60 → N' (1325 + i) = N (1325 + i)) (eS : S' 10 = S 10) : ∀ i, i < 60 → S' 10 i = wI (ptc N' i) := fun i hi => by rw [eS, show ptc N' i = ptc N i by unfold ptc; rw [e i hi]]; exact r.2.2.2.2.2.2.2.2.2.2.1 i hi
theorem rs_11 (r : RelS S N) (e : ∀ k, k < 3 → N' (1 + k) = N (1 + k)) (eS : S' 11 = S 11) : ∀ k, k < 3 → S' 11 k = N' (1 + k) := fun k hk => by rw [eS, e k hk]; exact r.2.2.2.2.2.2.2.2.2.2.2.1 k hk
theorem rs_12 (r : RelS S N) (e : ∀ k, k < 5 → N' (4 + k) = N (4 + k)) (eS : S' 12 = S 12) : ∀ k, k < 5 → S' 12 k = N' (4 + k) := fun k hk => by rw [eS, e k hk]; exact r.2.2.2.2.2.2.2.2.2.2.2.2 k hk
end RSS
section OPS2
theorem m_set21 (σ : Sg) {N : Rw} (h1 : ∀ i, i < 1385 → σ 113 i = N i) (hs : ∀ k, k < 3 → N (1 + k) = nI (stt N k)) {k v hi : Nat} (hk : k < 3) (hv : v < 2147483648) (hh : hi < 1000) : f_MO_set_21 (nI k) (nI v) (nI hi) (nI 0) (nI v) σ = if v ≤ hi then (if nI (stt N k) = nI v then some (-5, σ) else bd (f_MO_record σ) fun r7 σ8 => gd (inb (nI (1 + k)) 1385) <| lt' (up σ8 113 (nI (1 + k)).toNatClampNeg (nI v)) fun σ10 => some (nI (stt N k), σ10)) else some (-2, σ) := by
  unfold f_MO_set_21
  rw [m_inN σ v 0 hi hv (by decide) (by omega), bd_s, decide_eq_true (Nat.zero_le v), Bool.true_and]
  by_cases q : v ≤ hi
  · rw [if_pos q, decide_eq_true q, if_neg (by decide), nI_add, inb_n (by omega) (by omega), gd_t, nI_clamp (by omega), h1 (1 + k) (by omega), hs k hk, lt']
  · rw [if_neg q, decide_eq_false q, bI_f, if_pos rfl]
theorem inv_stt {N : Rw} (h : InvN N) {k v : Nat} (hk : k < 3) (hv : v ≤ if k = 1 then 5 else 1) : InvN (upd N (1 + k) (nI v)) := by
  have hv5 : v ≤ 5 := by by_cases q : k = 1; rw [if_pos q] at hv; exact hv; rw [if_neg q] at hv; omega
  have e : ∀ i, i ≠ 1 + k → upd N (1 + k) (nI v) i = N i := fun i hi => upd_n _ _ hi
  have l := st_lk h (N' := upd N (1 + k) (nI v)) (fun c hc => e _ (by omega))
  have w := st_w h (N' := upd N (1 + k) (nI v)) (fun c hc => e _ (by omega))
  have es : ∀ j, j < 3 → stt (upd N (1 + k) (nI v)) j = if j = k then v else stt N j := by
    intro j hj
    unfold stt
    by_cases z : j = k
    · rw [if_pos z, z, upd_s, vN_nI (by omega)]
    · rw [if_neg z, e _ (by omega)]
  have hs := h.2.2.2.2.2.2.2.2.2.2.1
  have hs2 := h.2.2.2.2.2.2.2.2.2.2.2.1
  refine InvN.up h (fun i hi => e i (by omega)) (st_in h (fun c hc => e _ (by omega))) l.1 l.2.1 l.2.2 w.1 w.2 (st_p h (fun c hc => e _ (by omega))) (fun j hj => ?_) ⟨?_, ?_, ?_⟩ (st_z h (fun c hc => e _ (by omega)))
  · rw [es j hj]
    by_cases z : j = k
    · rw [if_pos z, z, upd_s]
    · rw [if_neg z, e _ (by omega)]; exact hs j hj
  · rw [es 0 (by decide)]
    by_cases z : 0 = k
    · rw [if_pos z]; rw [if_neg (by omega)] at hv; exact hv
    · rw [if_neg z]; exact hs2.1
  · rw [es 1 (by decide)]
    by_cases z : 1 = k
    · rw [if_pos z]; exact hv5
    · rw [if_neg z]; exact hs2.2.1
  · rw [es 2 (by decide)]
    by_cases z : 2 = k
    · rw [if_pos z]; rw [if_neg (by omega)] at hv; exact hv
    · rw [if_neg z]; exact hs2.2.2
theorem op_set (x1 x2 : Int32) : Ok2 (f_CT_set x1 x2) (f_MO_set x1 x2) := Ok2.mk (fun A hA => by
  show One _ _ A
  by_cases q : plc 3 x1 < 3
  case neg =>
    refine One.same hA (-2) (fun σ h => ?_) (fun σ h => ?_)
    · unfold f_CT_set; rw [s_idx _ _ _ (by decide), bd_s, decide_eq_false q, bI_f, if_pos rfl]
    · unfold f_MO_set; rw [m_inP σ x1 2 (by decide), bd_s, decide_eq_false q, bI_f, if_pos rfl]
  obtain ⟨k, hk, e1⟩ : ∃ k, k < 3 ∧ x1 = nI k := ⟨plc 3 x1, q, plc_lt (by decide) q⟩
  subst e1
  have cs : ∀ σ, f_CT_set (nI k) x2 σ = if x2 < nI 0 then some (-2, σ) else if x2 ≤ nI (if k = 1 then 5 else 1) then bd (f_ST_setting (nI k) σ) fun r8 σ9 => if r8 = x2 then some (-5, σ9) else bd (f_HI_record σ9) fun r11 σ12 => bd (f_ST_changeSetting (nI k) x2 σ12) fun r13 σ14 => some (r8, σ14) else some (-2, σ) := by
    intro σ
    unfold f_CT_set f_CT_mostOf
    rw [s_idx _ _ _ (by decide), bd_s, decide_eq_true q, if_neg (by decide)]
    by_cases z : k = 1
    · rw [if_pos (show nI k = nI 1 by rw [z]), bd_s, if_pos z]
    · rw [if_neg (show ¬ nI k = nI 1 from fun w => z ((nI_eq (by omega) (by decide)).mp w)), bd_s, if_neg z]
  have ms : ∀ σ v, v < 2147483648 → RI A σ → f_MO_set (nI k) (nI v) σ = if v ≤ (if k = 1 then 5 else 1) then (if nI (stt A.N k) = nI v then some (-5, σ) else bd (f_MO_record σ) fun r7 σ8 => gd (inb (nI (1 + k)) 1385) <| lt' (up σ8 113 (nI (1 + k)).toNatClampNeg (nI v)) fun σ10 => some (nI (stt A.N k), σ10)) else some (-2, σ) := by
    intro σ v hv h
    unfold f_MO_set
    rw [m_inP σ _ 2 (by decide), bd_s, decide_eq_true q, if_neg (by decide)]
    by_cases z : k = 1
    · rw [if_pos (by rw [z]), m_set21 σ h.1 hA.1.2.2.2.2.2.2.2.2.2.2.1 hk hv (by decide), if_pos z]
    · rw [if_neg (fun w => z ((nI_eq (by omega) (by decide)).mp w)), m_set21 σ h.1 hA.1.2.2.2.2.2.2.2.2.2.2.1 hk hv (by decide), if_neg z]
  rcases i32c x2 with n2 | ⟨v, hv, rfl⟩
  · refine One.same hA (-2) (fun σ h => ?_) (fun σ h => ?_)
    · rw [cs, if_pos n2]
    · unfold f_MO_set f_MO_set_21
      rw [m_inP σ _ 2 (by decide), bd_s, decide_eq_true q, if_neg (by decide)]
      by_cases z : k = 1
      · rw [if_pos (by rw [z]), m_inNeg σ (by decide) n2, bd_s, bI_f, if_pos rfl]
      · rw [if_neg (fun w => z ((nI_eq (by omega) (by decide)).mp w)), m_inNeg σ (by decide) n2, bd_s, bI_f, if_pos rfl]
  have hm5 : (if k = 1 then 5 else 1) ≤ 5 := by by_cases z : k = 1; rw [if_pos z]; exact Nat.le_refl _; rw [if_neg z]; decide
  by_cases q2 : v ≤ if k = 1 then 5 else 1
  case neg =>
    refine One.same hA (-2) (fun σ h => ?_) (fun σ h => ?_)
    · rw [cs, if_neg (neg0 hv), if_neg (fun w => q2 ((nI_leI hv (by omega)).mp w))]
    · rw [ms σ v hv h, if_neg q2]
  have hs5 : stt A.N k ≤ 5 := by
    have := hA.1.2.2.2.2.2.2.2.2.2.2.2.1
    rcases (by omega : k = 0 ∨ k = 1 ∨ k = 2) with w | w | w <;> rw [w] <;> omega
  have rset : ∀ {σ}, CI A σ → f_ST_setting (nI k) σ = some (nI (stt A.N k), σ) := fun h => r_setting (h.qs hA) hk
  by_cases q3 : stt A.N k = v
  · refine One.same hA (-5) (fun σ h => ?_) (fun σ h => ?_)
    · rw [cs, if_neg (neg0 hv), if_pos ((nI_leI hv (by omega)).mpr q2), rset h, bd_s, if_pos (by rw [q3])]
    · rw [ms σ v hv h, if_pos q2, if_pos (by rw [q3])]
  · refine One.chg hA (upd A.N (1 + k) (nI v)) (nI (stt A.N k)) (inv_stt hA.1 hk q2) (fun σ y h h1 h2 h3 => ?_) (fun σ y h h1 h2 h3 => ?_)
    · rw [cs, if_neg (neg0 hv), if_pos ((nI_leI hv (by omega)).mpr q2), rset h, bd_s, if_neg (fun w => q3 ((nI_eq (by omega) hv).mp w)), h1, bd_s]
      unfold f_ST_changeSetting
      rw [s_put _ _ _ _ _ hk (by decide), bd_s, bd_s]
      have r := h3.1
      have e : ∀ i, i ≠ 1 + k → upd A.N (1 + k) (nI v) i = A.N i := fun i hi => upd_n _ _ hi
      refine ⟨_, rfl, RelS.up (S := fun k => y k) r hA.1 (fun i hi => upd_n _ _ (by omega)) (fun k hk => up_n _ _ _ (by omega)) (rs_1 r (fun c hc => e _ (by omega)) (up_n _ _ _ (by decide))) (rs_8 r (fun c hc => e _ (by omega)) (up_n _ _ _ (by decide))) (rs_9 r (fun c hc => e _ (by omega)) (up_n _ _ _ (by decide))) (rs_10 r (fun c hc => e _ (by omega)) (up_n _ _ _ (by decide))) (fun j hj => ?_) (rs_12 r (fun c hc => e _ (by omega)) (up_n _ _ _ (by decide))), fun c hc => up_n _ _ _ (by omega)⟩
      show up y 11 k (nI v) 11 j = _
      rw [up_s]
      by_cases z : j = k
      · rw [z, upd_s, upd_s]
      · rw [upd_n _ _ z, e _ (by omega)]; exact r.2.2.2.2.2.2.2.2.2.2.2.1 j hj
    · rw [ms σ v hv h, if_pos q2, if_neg (fun w => q3 ((nI_eq (by omega) hv).mp w)), h1, bd_s, inb_n (by omega) (by omega), gd_t, nI_clamp (by omega), lt']
      refine ⟨_, rfl, fun i hi => ?_, fun c hc => up_n _ _ _ hc⟩
      rw [up_s]
      by_cases z : i = 1 + k
      · rw [z, upd_s, upd_s]
      · rw [upd_n _ _ z, upd_n _ _ z]; exact h3.1 i hi)
theorem inv_out {N : Rw} (h : InvN N) {c : Nat} (hc : c < 20) : InvN (upd N (29 + c) (nI 0)) := by
  have e : ∀ i, i ≠ 29 + c → upd N (29 + c) (nI 0) i = N i := fun i hi => upd_n _ _ hi
  have l := st_lk h (N' := upd N (29 + c) (nI 0)) (fun c hc => e _ (by omega))
  have w := st_w h (N' := upd N (29 + c) (nI 0)) (fun c hc => e _ (by omega))
  have s := st_s h (N' := upd N (29 + c) (nI 0)) (fun c hc => e _ (by omega))
  refine InvN.up h (fun i hi => e i (by omega)) (fun i hi => ?_) l.1 l.2.1 l.2.2 w.1 w.2 (st_p h (fun c hc => e _ (by omega))) s.1 s.2 (st_z h (fun c hc => e _ (by omega)))
  by_cases z : i = c
  · have e2 : inn (upd N (29 + c) (nI 0)) c = false := by unfold inn; rw [upd_s, decide_eq_false (p := (nI 0 : Int32) = 1) (by decide), Bool.and_false]
    rw [z, upd_s, e2]
    exact ⟨rfl, fun w => by cases w⟩
  · rw [inn_cg (N := N) (fun _ => e _ (by omega)), e _ (by omega)]; exact h.2.1 i hi
theorem op_withdraw (x1 : Int32) : Ok2 (f_CT_withdraw x1) (f_MO_withdraw x1) := Ok2.mk (fun A hA => by
  show One _ _ A
  cases q : inn A.N (plc 20 x1)
  · refine One.same hA (-1) (fun σ h => ?_) (fun σ h => ?_)
    · unfold f_CT_withdraw; rw [r_isIn (h.qs hA), bd_s, q, bI_f, if_pos rfl]
    · unfold f_MO_withdraw; rw [m_is (h.mr hA), bd_s, q, bI_f, if_pos rfl]
  obtain ⟨c, hc, e1, e2⟩ : ∃ c, c < 20 ∧ x1 = nI c ∧ inn A.N c = true := by
    have h20 := (hA.1.in_lt q).1
    exact ⟨plc 20 x1, h20, plc_lt (by decide) h20, q⟩
  subst e1
  have e : ∀ i, i ≠ 29 + c → upd A.N (29 + c) (nI 0) i = A.N i := fun i hi => upd_n _ _ hi
  refine One.chg hA (upd A.N (29 + c) (nI 0)) (nI (cnt (inn (upd A.N (29 + c) (nI 0))) 20)) (inv_out hA.1 hc) (fun σ y h h1 h2 h3 => ?_) (fun σ y h h1 h2 h3 => ?_)
  · unfold f_CT_withdraw f_ST_takeOut
    rw [r_isIn (h.qs hA), bd_s, q, if_neg (by decide), h1, bd_s, s_idxN _ _ _ (by omega) (by decide), bd_s, decide_eq_true hc, if_neg (by decide), inb_n hc (by omega), gd_t, nI_clamp (by omega), lt', bd_s]
    have r := h3.1
    have rel : RelS (fun k => up y 1 c (nI 0) k) (upd A.N (29 + c) (nI 0)) := by
      refine RelS.up (S := fun k => y k) r hA.1 (fun i hi => upd_n _ _ (by omega)) (fun k hk => up_n _ _ _ (by omega)) (fun i hi => ?_) (rs_8 r (fun c hc => e _ (by omega)) (up_n _ _ _ (by decide))) (rs_9 r (fun c hc => e _ (by omega)) (up_n _ _ _ (by decide))) (rs_10 r (fun c hc => e _ (by omega)) (up_n _ _ _ (by decide))) (rs_11 r (fun c hc => e _ (by omega)) (up_n _ _ _ (by decide))) (rs_12 r (fun c hc => e _ (by omega)) (up_n _ _ _ (by decide)))
      show up y 1 c (nI 0) 1 i = _
      rw [up_s]
      by_cases z : i = c
      · rw [z, upd_s, upd_s]
      · rw [upd_n _ _ z, e _ (by omega)]; exact r.2.1 i hi
    exact ⟨_, by rw [r_capsIn ⟨trivial, inv_out hA.1 hc, rel⟩, bd_s], rel, fun c hc => up_n _ _ _ (by omega)⟩
  · unfold f_MO_withdraw
    rw [m_is (h.mr hA), bd_s, q, if_neg (by decide), h1, bd_s, nI_add, inb_n (by omega) (by omega), gd_t, nI_clamp (by omega), lt']
    have r : ∀ i, i < 1385 → up y 113 (29 + c) (nI 0) 113 i = upd A.N (29 + c) (nI 0) i := by
      intro i hi
      rw [up_s]
      by_cases z : i = 29 + c
      · rw [z, upd_s, upd_s]
      · rw [upd_n _ _ z, upd_n _ _ z]; exact h3.1 i hi
    exact ⟨_, by rw [m_there ⟨r, inv_out hA.1 hc⟩, bd_s], r, fun c hc => up_n _ _ _ hc⟩)
theorem op_type (x : Int32) : Ok2 (f_CT_type x) (f_MO_type x) := Ok2.mk (fun A hA => by
  have hd := hA.2.2.2
  by_cases q : A.d < 60
  case neg =>
    have e60 : A.d = 60 := by omega
    refine One.same hA (-3) (fun σ h => ?_) (fun σ h => ?_)
    · unfold f_CT_type f_DR_length
      rw [bd_s, h.2.2.2.1, if_neg (fun w => q ((nI_ltI (by omega) (by decide)).mp w))]
    · unfold f_MO_type
      rw [h.2.2.2.1, if_pos (by rw [e60])]
  refine ⟨(A.N, A.2.1, A.2.2.1, (A.d + 1, upd A.D A.d x)), nI (A.d + 1), ⟨hA.1, hA.2.1, hA.2.2.1, q⟩, fun σ h => ?_, fun σ h => ?_⟩
  · unfold f_CT_type f_DR_length f_DR_append
    rw [bd_s, h.2.2.2.1, if_pos ((nI_ltI (by omega) (by decide)).mpr q), if_neg (nI_ge q (by decide)), s_put _ _ _ _ _ q (by decide), bd_s, up_n _ _ _ (by decide), h.2.2.2.1, nI_add, lt', bd_s, bd_s, up_s, upd_s]
    obtain ⟨h1, ⟨h2, T, h3, h4, h5⟩, ⟨h6, h7⟩, h8, h9⟩ := h
    have e : ∀ c, c ≠ 78 → c ≠ 79 → up (up σ 79 A.d x) 78 1 (nI (A.d + 1)) c = σ c := fun c a b => by rw [up_n _ _ _ a, up_n _ _ _ b]
    refine ⟨_, rfl, ⟨(QS.fr (L := [78, 79]) (σ := σ) ⟨trivial, hA.1, h1⟩ (((Fr.rf _ _).up _ _ (by decide)).up _ _ (by decide)) (by decide)).2.2, ⟨by rw [e 80 (by decide) (by decide)]; exact h2, T, fun i hi => by rw [e 81 (by decide) (by decide)]; exact h3 i hi, h4, fun i hi => RelS.bl (hA.2.1.2 i hi) (h5 i hi) (fun k hk => ?_)⟩, ⟨by rw [e 111 (by decide) (by decide)]; exact h6, fun hb => RelS.bl (hA.2.2.1 hb) (h7 hb) (fun k hk => e _ (by omega) (by omega))⟩, by rw [up_s, upd_s], fun k hk => ?_⟩, fun c hc => e c (by omega) (by omega)⟩
    · have := (h3 i (by have : i < A.n := hi; have := hA.2.1.1; omega)).1
      exact e _ (by omega) (by omega)
    · have hk : k < A.d + 1 := hk
      show _ = upd A.D A.d x k
      rw [up_n _ _ _ (by decide), up_s]
      by_cases z : k = A.d
      · rw [z, upd_s, upd_s]
      · rw [upd_n _ _ z, upd_n _ _ z]; exact h9 k (by omega)
  · unfold f_MO_type
    rw [h.2.2.2.1, if_neg (fun w => by have := (nI_eq (by omega) (by decide)).mp w; omega), inb_n q (by omega), gd_t, nI_clamp (by omega), lt', up_n _ _ _ (by decide), h.2.2.2.1, nI_add, lt', up_s, upd_s]
    obtain ⟨h1, ⟨h2, h3⟩, ⟨h4, h5⟩, h6, h7⟩ := h
    have e : ∀ c, c ≠ 112 → c ≠ 116 → up (up σ 116 A.d x) 112 5 (nI (A.d + 1)) c = σ c := fun c a b => by rw [up_n _ _ _ a, up_n _ _ _ b]
    have e2 : ∀ i, i ≠ 5 → up (up σ 116 A.d x) 112 5 (nI (A.d + 1)) 112 i = σ 112 i := fun i hi => by rw [up_s, upd_n _ _ hi, up_n _ _ _ (by decide)]
    refine ⟨_, rfl, ⟨fun i hi => by rw [e 113 (by decide) (by decide)]; exact h1 i hi, ⟨by rw [e2 4 (by decide)]; exact h2, fun i j hi hj => by rw [e 115 (by decide) (by decide)]; exact h3 i j hi hj⟩, ⟨by rw [e2 6 (by decide)]; exact h4, fun hb i hi => by rw [e 114 (by decide) (by decide)]; exact h5 hb i hi⟩, by rw [up_s, upd_s], fun k hk => ?_⟩, fun c hc => e c (by omega) (by omega)⟩
    have hk : k < A.d + 1 := hk
    show _ = upd A.D A.d x k
    rw [up_n _ _ _ (by decide), up_s]
    by_cases z : k = A.d
    · rw [z, upd_s, upd_s]
    · rw [upd_n _ _ z, upd_n _ _ z]; exact h7 k (by omega))
theorem op_clearText : Ok2 f_CT_clearText f_MO_clearText := Ok2.mk (fun A hA => by
  refine ⟨(A.N, A.2.1, A.2.2.1, (0, A.D)), nI A.d, ⟨hA.1, hA.2.1, hA.2.2.1, Nat.zero_le _⟩, fun σ h => ?_, fun σ h => ?_⟩
  · unfold f_CT_clearText f_DR_length f_DR_empty
    rw [bd_s, h.2.2.2.1, lt', bd_s]
    obtain ⟨h1, ⟨h2, T, h3, h4, h5⟩, ⟨h6, h7⟩, h8, h9⟩ := h
    have e : ∀ c, c ≠ 78 → up σ 78 1 (nI 0) c = σ c := fun c a => up_n _ _ _ a
    refine ⟨_, rfl, ⟨(QS.fr (L := [78]) (σ := σ) ⟨trivial, hA.1, h1⟩ ((Fr.rf _ _).up _ _ (by decide)) (by decide)).2.2, ⟨by rw [e 80 (by decide)]; exact h2, T, fun i hi => by rw [e 81 (by decide)]; exact h3 i hi, h4, fun i hi => RelS.bl (hA.2.1.2 i hi) (h5 i hi) (fun k hk => ?_)⟩, ⟨by rw [e 111 (by decide)]; exact h6, fun hb => RelS.bl (hA.2.2.1 hb) (h7 hb) (fun k hk => e _ (by omega))⟩, by rw [up_s, upd_s], fun k hk => absurd hk (Nat.not_lt_zero _)⟩, fun c hc => e c (by omega)⟩
    have := (h3 i (by have : i < A.n := hi; have := hA.2.1.1; omega)).1
    exact e _ (by omega)
  · unfold f_MO_clearText
    rw [h.2.2.2.1, lt', lt']
    obtain ⟨h1, ⟨h2, h3⟩, ⟨h4, h5⟩, h6, h7⟩ := h
    have e : ∀ c, c ≠ 112 → up σ 112 5 (nI 0) c = σ c := fun c a => up_n _ _ _ a
    have e2 : ∀ i, i ≠ 5 → up σ 112 5 (nI 0) 112 i = σ 112 i := fun i hi => by rw [up_s, upd_n _ _ hi]
    exact ⟨_, rfl, ⟨fun i hi => by rw [e 113 (by decide)]; exact h1 i hi, ⟨by rw [e2 4 (by decide)]; exact h2, fun i j hi hj => by rw [e 115 (by decide)]; exact h3 i j hi hj⟩, ⟨by rw [e2 6 (by decide)]; exact h4, fun hb i hi => by rw [e 114 (by decide)]; exact h5 hb i hi⟩, by rw [up_s, upd_s], fun k hk => absurd hk (Nat.not_lt_zero _)⟩, fun c hc => e c (by omega)⟩)
end OPS2
