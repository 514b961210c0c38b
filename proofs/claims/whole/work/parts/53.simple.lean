/-! operations that change little -/
theorem ltz {x : Int32} {a : Nat} (h : x < nI 0) (ha : a < 2147483648) : x < nI a := Int32.not_le.mp (fun w => absurd h (Int32.not_lt.mpr (Int32.le_trans ((nI_leI (by decide) ha).mpr (Nat.zero_le _)) w)))
def One (f g : Sg → Option (Int32 × Sg)) (A : Ab) : Prop := ∃ A' r, OKA A' ∧ CH f A A' r ∧ RH g A A' r
theorem One.same {f g : Sg → Option (Int32 × Sg)} {A : Ab} (hA : OKA A) (r : Int32) (hc : ∀ σ, CI A σ → f σ = some (r, σ)) (hr : ∀ σ, RI A σ → g σ = some (r, σ)) : One f g A :=
  ⟨A, r, hA, fun σ h => ⟨σ, hc σ h, h, fun _ _ => rfl⟩, fun σ h => ⟨σ, hr σ h, h, fun _ _ => rfl⟩⟩
/-- one place of the current row changes, after the history took it -/
theorem One.chg {f g : Sg → Option (Int32 × Sg)} {A : Ab} (hA : OKA A) (N' : Rw) (r : Int32) (hN : InvN N')
    (hc : ∀ σ y, CI A σ → f_HI_record σ = some (0, y) → HF σ y → CI A.rec' y → ∃ z, f σ = some (r, z) ∧ RelS (fun k => z k) N' ∧ ∀ c, 13 ≤ c → z c = y c)
    (hr : ∀ σ y, RI A σ → f_MO_record σ = some (0, y) → Fr [112, 115] σ y → RI A.rec' y → ∃ z, g σ = some (r, z) ∧ (∀ i, i < 1385 → z 113 i = N' i) ∧ ∀ c, c ≠ 113 → z c = y c) : One f g A := by
  refine ⟨(N', A.rec'.2), r, ⟨hN, hA.rec'.2⟩, fun σ h => ?_, fun σ h => ?_⟩
  · obtain ⟨y, y1, y2, y3⟩ := c_record hA h
    obtain ⟨z, z1, z2, z3⟩ := hc σ y h y1 y2 y3
    exact ⟨z, z1, CI.cur hA.rec' y3 (fun c hc => z3 c (by omega)) z2, fun c hc => (z3 c (by omega)).trans (y2 c (by omega))⟩
  · obtain ⟨y, y1, y2, y3, y4⟩ := m_record hA h
    obtain ⟨z, z1, z2, z3⟩ := hr σ y h y1 y2 y4
    refine ⟨z, z1, RI.cur y4 (fun c hc => z3 c (by omega)) z2, fun c hc => (z3 c (by omega)).trans (y2 c ?_)⟩
    simp
    omega
section OPS
theorem ci_prz {A : Ab} {σ : Sg} (hA : OKA A) (h : CI A σ) {p : Nat} (hp : p < 5) : f_ST_prizeOf (nI (p + 1)) σ = some (nI (prz A.N p), σ) := by
  unfold f_ST_prizeOf
  rw [mI_sub, mI_s (by omega), show p + 1 - 1 = p by omega, s_at _ _ _ _ hp (by decide), bd_s, show σ 12 p = nI (prz A.N p) from (h.1.2.2.2.2.2.2.2.2.2.2.2.2 p hp).trans (hA.1.2.2.2.2.2.2.2.2.2.2.2.2 p hp).1]
theorem inv_prz {N : Rw} (h : InvN N) {p v : Nat} (hp : p < 5) (hv : v ≤ 999) : InvN (upd N (4 + p) (nI v)) := by
  have e : ∀ i, i ≠ 4 + p → upd N (4 + p) (nI v) i = N i := fun i hi => upd_n _ _ hi
  have l := st_lk h (N' := upd N (4 + p) (nI v)) (fun c hc => e _ (by omega))
  have w := st_w h (N' := upd N (4 + p) (nI v)) (fun c hc => e _ (by omega))
  have s := st_s h (N' := upd N (4 + p) (nI v)) (fun c hc => e _ (by omega))
  refine InvN.up h (fun i hi => e i (by omega)) (st_in h (fun c hc => e _ (by omega))) l.1 l.2.1 l.2.2 w.1 w.2 (st_p h (fun c hc => e _ (by omega))) s.1 s.2 (fun k hk => ?_)
  unfold prz
  by_cases z : k = p
  · rw [z, upd_s, vN_nI (by omega)]; exact ⟨rfl, hv⟩
  · rw [e _ (by omega)]; exact h.2.2.2.2.2.2.2.2.2.2.2.2 k hk
theorem op_prize (x1 x2 : Int32) : Ok2 (f_CT_prize x1 x2) (f_MO_prize x1 x2) := Ok2.mk (fun A hA => by
  show One _ _ A
  rcases i32c x1 with n1 | ⟨p, hp, rfl⟩
  · refine One.same hA (-2) (fun σ h => ?_) (fun σ h => ?_)
    · unfold f_CT_prize; rw [if_pos (ltz n1 (by decide))]
    · unfold f_MO_prize; rw [m_inNeg σ (by decide) n1, bd_s, bI_f, if_pos rfl]
  by_cases q : 1 ≤ p ∧ p ≤ 5
  case neg =>
    refine One.same hA (-2) (fun σ h => ?_) (fun σ h => ?_)
    · unfold f_CT_prize
      by_cases q1 : p < 1
      · rw [if_pos ((nI_ltI hp (by decide)).mpr q1)]
      · rw [if_neg (fun w => q1 ((nI_ltI hp (by decide)).mp w)), if_pos ((nI_ltI (by decide) hp).mpr (by omega))]
    · unfold f_MO_prize
      rw [m_inN σ p 1 5 hp (by decide) (by decide), bd_s, show (decide (1 ≤ p) && decide (p ≤ 5)) = false by
        by_cases q1 : 1 ≤ p
        · rw [decide_eq_false (p := p ≤ 5) (fun w => q ⟨q1, w⟩), Bool.and_false]
        · rw [decide_eq_false q1]; rfl, bI_f, if_pos rfl]
  obtain ⟨p, rfl⟩ : ∃ k, p = k + 1 := ⟨p - 1, by omega⟩
  have cs : ∀ σ, f_CT_prize (nI (p + 1)) x2 σ = if x2 < nI 0 then some (-2, σ) else if x2 ≤ nI 999 then bd (f_ST_prizeOf (nI (p + 1)) σ) fun r5 σ6 => if r5 = x2 then some (-5, σ6) else bd (f_HI_record σ6) fun r8 σ9 => bd (f_ST_changePrize (nI (p + 1)) x2 σ9) fun r10 σ11 => some (r5, σ11) else some (-2, σ) := by
    intro σ
    unfold f_CT_prize
    rw [if_neg (fun w => by have := (nI_ltI hp (by decide)).mp w; omega), if_neg (fun w => by have := (nI_ltI (by decide) hp).mp w; omega)]
  have ms : ∀ σ, f_MO_in (nI (p + 1)) (nI 1) (nI 5) σ = some (bI true, σ) := by
    intro σ
    rw [m_inN σ (p + 1) 1 5 hp (by decide) (by decide), decide_eq_true q.1, decide_eq_true q.2]
    rfl
  rcases i32c x2 with n2 | ⟨v, hv, rfl⟩
  · refine One.same hA (-2) (fun σ h => ?_) (fun σ h => ?_)
    · rw [cs, if_pos n2]
    · unfold f_MO_prize
      rw [ms, bd_s, if_neg (by decide), m_inNeg σ (by decide) n2, bd_s, bI_f, if_pos rfl]
  by_cases q2 : v ≤ 999
  case neg =>
    refine One.same hA (-2) (fun σ h => ?_) (fun σ h => ?_)
    · rw [cs, if_neg (neg0 hv), if_neg (fun w => q2 ((nI_leI hv (by decide)).mp w))]
    · unfold f_MO_prize
      rw [ms, bd_s, if_neg (by decide), m_inN σ v 0 999 hv (by decide) (by decide), decide_eq_false (p := v ≤ 999) q2, Bool.and_false, bd_s, bI_f, if_pos rfl]
  have ms2 : ∀ σ, f_MO_in (nI v) (nI 0) (nI 999) σ = some (bI true, σ) := by
    intro σ
    rw [m_inN σ v 0 999 hv (by decide) (by decide), decide_eq_true q2, decide_eq_true (Nat.zero_le _)]
    rfl
  have hz := (hA.1.2.2.2.2.2.2.2.2.2.2.2.2 p (by omega))
  have mr : ∀ σ, RI A σ → f_MO_prize (nI (p + 1)) (nI v) σ = if nI (prz A.N p) = nI v then some (-5, σ) else bd (f_MO_record σ) fun r10 σ11 => gd (inb (nI (4 + p)) 1385) <| lt' (up σ11 113 (nI (4 + p)).toNatClampNeg (nI v)) fun σ13 => some (nI (prz A.N p), σ13) := by
    intro σ h
    unfold f_MO_prize
    rw [ms, bd_s, if_neg (by decide), ms2, bd_s, if_neg (by decide), nI_add, mI_sub, mI_s (by omega), show 4 + (p + 1) - 1 = 4 + p by omega, inb_n (by omega) (by omega), gd_t, nI_clamp (by omega), h.1 (4 + p) (by omega), hz.1, lt']
  by_cases q3 : prz A.N p = v
  · refine One.same hA (-5) (fun σ h => ?_) (fun σ h => ?_)
    · rw [cs, if_neg (neg0 hv), if_pos ((nI_leI hv (by decide)).mpr q2), ci_prz hA h (by omega), bd_s, if_pos (by rw [q3])]
    · rw [mr σ h, if_pos (by rw [q3])]
  · refine One.chg hA (upd A.N (4 + p) (nI v)) (nI (prz A.N p)) (inv_prz hA.1 (by omega) q2) (fun σ y h h1 h2 h3 => ?_) (fun σ y h h1 h2 h3 => ?_)
    · rw [cs, if_neg (neg0 hv), if_pos ((nI_leI hv (by decide)).mpr q2), ci_prz hA h (by omega), bd_s, if_neg (fun w => q3 ((nI_eq (by omega) hv).mp w)), h1, bd_s]
      unfold f_ST_changePrize
      rw [mI_sub, mI_s (by omega), show p + 1 - 1 = p by omega, s_put _ _ _ _ _ (by omega) (by decide), bd_s, bd_s]
      have r := h3.1
      refine ⟨_, rfl, RelS.up (S := fun k => y k) r hA.1 (fun i hi => upd_n _ _ (by omega)) (fun k hk => up_n _ _ _ (by omega)) (fun c hc => ?_) (fun a b ha hb => ?_) (fun i hi => ?_) (fun i hi => ?_) (fun k hk => ?_) (fun k hk => ?_), fun c hc => up_n _ _ _ (by omega)⟩
      · show up y 12 p (nI v) 1 c = _
        rw [up_n _ _ _ (by decide), upd_n _ _ (by omega)]; exact r.2.1 c hc
      · show up y 12 p (nI v) 8 _ = _
        rw [up_n _ _ _ (by decide), lkd_cg (N := A.N) (upd_n _ _ (by omega))]; exact r.2.2.2.2.2.2.2.2.1 a b ha hb
      · show up y 12 p (nI v) 9 _ = _
        rw [up_n _ _ _ (by decide), show wsc (upd A.N (4 + p) (nI v)) i = wsc A.N i by unfold wsc; rw [upd_n _ _ (by omega)]]; exact r.2.2.2.2.2.2.2.2.2.1 i hi
      · show up y 12 p (nI v) 10 _ = _
        rw [up_n _ _ _ (by decide), show ptc (upd A.N (4 + p) (nI v)) i = ptc A.N i by unfold ptc; rw [upd_n _ _ (by omega)]]; exact r.2.2.2.2.2.2.2.2.2.2.1 i hi
      · show up y 12 p (nI v) 11 _ = _
        rw [up_n _ _ _ (by decide), upd_n _ _ (by omega)]; exact r.2.2.2.2.2.2.2.2.2.2.2.1 k hk
      · show up y 12 p (nI v) 12 k = _
        rw [up_s]
        by_cases z : k = p
        · rw [z, upd_s, upd_s]
        · rw [upd_n _ _ z, upd_n _ _ (by omega)]; exact r.2.2.2.2.2.2.2.2.2.2.2.2 k hk
    · rw [mr σ h, if_neg (fun w => q3 ((nI_eq (by omega) hv).mp w)), h1, bd_s, inb_n (by omega) (by omega), gd_t, nI_clamp (by omega), lt']
      refine ⟨_, rfl, fun i hi => ?_, fun c hc => up_n _ _ _ hc⟩
      rw [up_s]
      by_cases z : i = 4 + p
      · rw [z, upd_s, upd_s]
      · rw [upd_n _ _ z, upd_n _ _ z]; exact h3.1 i hi)
end OPS
