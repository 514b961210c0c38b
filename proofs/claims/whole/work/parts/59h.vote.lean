section VOTE
def wk' (N : Rw) (x : Int32) : Bool := decide (x = -5) || inn N (plc 20 x)
theorem wk_arg {N : Rw} (hN : InvN N) {x : Int32} (h : wk' N x = true) : ∃ w, x = wI w ∧ w ≤ ev N := by
  unfold wk' at h
  by_cases z : x = -5
  · exact ⟨0, z, Nat.zero_le _⟩
  · rw [decide_eq_false z, Bool.false_or] at h
    obtain ⟨c, c1, c2, c3, c4⟩ := inn_arg hN h
    exact ⟨c + 1, c3, c2⟩
theorem wI_inj {a b : Nat} (ha : a ≤ 2000) (hb : b ≤ 2000) : (wI a = wI b) ↔ a = b := by
  by_cases q : b = 0
  · rw [q]
    exact wI_5 ha
  · rw [wI_s q, wI_v ha (by omega)]; omega
def gap (a b c : Nat) : Bool := (decide (a = 0) && (!(decide (b = 0)) || !(decide (c = 0)))) || (decide (b = 0) && !(decide (c = 0)))
def twi (a b c : Nat) : Bool := (!(decide (a = 0)) && (decide (a = b) || decide (a = c))) || (!(decide (b = 0)) && decide (b = c))
theorem c_isWish {σ : Sg} {N : Rw} (h : QS σ N) (x : Int32) : f_CT_isWish x σ = some (bI (wk' N x), σ) := by
  unfold f_CT_isWish wk'
  by_cases z : x = -5
  · rw [if_pos z, decide_eq_true z]; rfl
  · rw [if_neg z, decide_eq_false z, r_isIn h, bd_s, Bool.false_or]
    cases inn N (plc 20 x)
    · rw [if_pos (by decide)]; rfl
    · rw [if_neg (by decide)]; rfl
theorem c_hasGap (σ : Sg) {a b c : Nat} (ha : a ≤ 20) (hb : b ≤ 20) (hc : c ≤ 20) : f_CT_hasGap (wI a) (wI b) (wI c) σ = some (bI (gap a b c), σ) := by
  unfold f_CT_hasGap f_CT_hasGap_18 gap
  simp only [wI_5 (show a ≤ 2000 by omega), wI_5 (show b ≤ 2000 by omega), wI_5 (show c ≤ 2000 by omega)]
  by_cases q1 : a = 0 <;> by_cases q2 : b = 0 <;> by_cases q3 : c = 0 <;> simp [q1, q2, q3, bI, b2n]
theorem c_isTwice (σ : Sg) {a b c : Nat} (ha : a ≤ 20) (hb : b ≤ 20) (hc : c ≤ 20) : f_CT_isTwice (wI a) (wI b) (wI c) σ = some (bI (twi a b c), σ) := by
  unfold f_CT_isTwice f_CT_isTwice_16 twi
  simp only [wI_5 (show a ≤ 2000 by omega), wI_5 (show b ≤ 2000 by omega), wI_inj (show a ≤ 2000 by omega) (show b ≤ 2000 by omega), wI_inj (show a ≤ 2000 by omega) (show c ≤ 2000 by omega), wI_inj (show b ≤ 2000 by omega) (show c ≤ 2000 by omega)]
  by_cases q1 : a = 0 <;> by_cases q2 : b = 0 <;> by_cases q3 : a = b <;> by_cases q4 : a = c <;> by_cases q5 : b = c <;> by_cases q6 : c = 0 <;> simp [q1, q2, q3, q4, q5, q6, bI, b2n]
theorem m_vote49 {σ : Sg} {N : Rw} (h : MR σ N) (x1 x2 x3 x4 : Int32) : f_MO_vote x1 x2 x3 x4 σ = f_MO_vote_49 x1 x2 x3 x4 (bI (wk' N x2 && wk' N x3 && wk' N x4)) σ := by
  have s28 : f_MO_vote_28 x1 x2 x3 x4 σ = f_MO_vote_49 x1 x2 x3 x4 (bI (wk' N x4)) σ := by
    unfold f_MO_vote_28 wk'
    by_cases z : x4 = -5
    · rw [if_pos z, decide_eq_true z]; rfl
    · rw [if_neg z, decide_eq_false z, m_is h, bd_s, Bool.false_or]
      cases inn N (plc 20 x4)
      · rw [if_pos (by decide)]; rfl
      · rw [if_neg (by decide)]; rfl
  have s14 : f_MO_vote_14 x1 x2 x3 x4 σ = f_MO_vote_49 x1 x2 x3 x4 (bI (wk' N x3 && wk' N x4)) σ := by
    unfold f_MO_vote_14
    rw [s28]
    by_cases z : x3 = -5
    · rw [if_pos z, show wk' N x3 = true by unfold wk'; rw [decide_eq_true z]; rfl, Bool.true_and]
    · rw [if_neg z, show wk' N x3 = inn N (plc 20 x3) by unfold wk'; rw [decide_eq_false z]; rfl, m_is h, bd_s]
      cases inn N (plc 20 x3)
      · rw [if_pos (by decide)]; rfl
      · rw [if_neg (by decide), s28, Bool.true_and]
  unfold f_MO_vote
  rw [s14, Bool.and_assoc]
  by_cases z : x2 = -5
  · rw [if_pos z, show wk' N x2 = true by unfold wk'; rw [decide_eq_true z]; rfl, Bool.true_and]
  · rw [if_neg z, show wk' N x2 = inn N (plc 20 x2) by unfold wk'; rw [decide_eq_false z]; rfl, m_is h, bd_s]
    cases inn N (plc 20 x2)
    · rw [if_pos (by decide)]; rfl
    · rw [if_neg (by decide), s14, Bool.true_and]
theorem m_vote105 (σ : Sg) {v a b c : Nat} (hv : v < 12) (ha : a ≤ 20) (hb : b ≤ 20) (hc : c ≤ 20) : f_MO_vote_49 (nI v) (wI a) (wI b) (wI c) (bI true) σ = f_MO_vote_105 (nI v) (wI a) (wI b) (wI c) (bI (gap a b c)) σ := by
  unfold f_MO_vote_49 f_MO_vote_87 gap
  rw [m_inP σ _ 11 (by decide), bd_s, decide_eq_true (by rw [plc_nI (by decide) hv]; exact hv), if_neg (by decide), if_neg (by decide)]
  simp only [wI_5 (show a ≤ 2000 by omega), wI_5 (show b ≤ 2000 by omega), wI_5 (show c ≤ 2000 by omega)]
  by_cases q1 : a = 0 <;> by_cases q2 : b = 0 <;> by_cases q3 : c = 0 <;> simp [q1, q2, q3, bI, b2n]
theorem m_vote141 (σ : Sg) (x1 t : Int32) {a b c : Nat} (ha : a ≤ 20) (hb : b ≤ 20) (hc : c ≤ 20) : f_MO_vote_105 x1 (wI a) (wI b) (wI c) t σ = f_MO_vote_141 x1 (wI a) (wI b) (wI c) t (bI (twi a b c)) σ := by
  unfold f_MO_vote_105 f_MO_vote_124 twi
  simp only [wI_5 (show a ≤ 2000 by omega), wI_5 (show b ≤ 2000 by omega), wI_inj (show a ≤ 2000 by omega) (show b ≤ 2000 by omega), wI_inj (show a ≤ 2000 by omega) (show c ≤ 2000 by omega), wI_inj (show b ≤ 2000 by omega) (show c ≤ 2000 by omega)]
  by_cases q1 : a = 0 <;> by_cases q2 : b = 0 <;> by_cases q3 : a = b <;> by_cases q4 : a = c <;> by_cases q5 : b = c <;> by_cases q6 : c = 0 <;> simp [q1, q2, q3, q4, q5, q6, bI, b2n]
theorem wI_1 {a : Nat} (ha : a ≤ 20) : (if wI a = -5 then nI 0 else wI a + nI 1) = nI a := by
  by_cases z : a = 0
  · rw [if_pos ((wI_5 (by omega)).mpr z), z]
  · rw [if_neg (fun w => z ((wI_5 (by omega)).mp w)), wI_s z, nI_add, show a - 1 + 1 = a by omega]
/-- the part behind all checks -/
def vot (p a b c : Nat) (σ : Sg) : Option (Int32 × Sg) :=
  bd (f_MO_record σ) fun _ σ2 =>
  some (nI (b2n (!(decide (a = 0))) + b2n (!(decide (b = 0))) + b2n (!(decide (c = 0)))), up (up (up σ2 113 p (nI a)) 113 (p + 1) (nI b)) 113 (p + 2) (nI c))
theorem m_vote255 (σ : Sg) {p a b c : Nat} (hp : p + 2 < 1385) (ha : a ≤ 20) (hb : b ≤ 20) (hc : c ≤ 20) (hg : gap a b c = false) : f_MO_vote_255 (wI a) (wI b) (wI c) (nI p) (nI a) (nI b) (nI c) σ = vot p a b c σ := by
  unfold f_MO_vote_255 vot
  congr 1
  funext r σ2
  rw [inb_n (by omega) (by omega), gd_t, nI_clamp (by omega), lt', nI_add, inb_n (by omega) (by omega), gd_t, nI_clamp (by omega), lt', nI_add, inb_n (by omega) (by omega), gd_t, nI_clamp (by omega), lt']
  simp only [wI_5 (show a ≤ 2000 by omega), wI_5 (show b ≤ 2000 by omega), wI_5 (show c ≤ 2000 by omega)]
  unfold gap at hg
  by_cases q1 : a = 0 <;> by_cases q2 : b = 0 <;> by_cases q3 : c = 0 <;> simp [q1, q2, q3, b2n] at hg ⊢
theorem m_vote210 {σ : Sg} {N : Rw} (h : MR σ N) {v a b c : Nat} (hv : v < 12) (ha : a ≤ 20) (hb : b ≤ 20) (hc : c ≤ 20) (hg : gap a b c = false) (ht : twi a b c = false) : f_MO_vote_141 (nI v) (wI a) (wI b) (wI c) (bI (gap a b c)) (bI (twi a b c)) σ = if (wsc N (3 * v) = a ∧ wsc N (3 * v + 1) = b) ∧ wsc N (3 * v + 2) = c then some (-5, σ) else vot (1289 + 3 * v) a b c σ := by
  have hE := h.2.1.2
  have w0 := h.2.2.2.2.2.2.2.2.1 (3 * v) (by omega)
  have w1 := h.2.2.2.2.2.2.2.2.1 (3 * v + 1) (by omega)
  have w2 := h.2.2.2.2.2.2.2.2.1 (3 * v + 2) (by omega)
  have e255 := m_vote255 σ (p := 1289 + 3 * v) (by omega) ha hb hc hg
  have e210 : f_MO_vote_210 (wI a) (wI b) (wI c) (nI (1289 + 3 * v)) (nI a) (nI b) (nI c) σ = if (wsc N (3 * v) = a ∧ wsc N (3 * v + 1) = b) ∧ wsc N (3 * v + 2) = c then some (-5, σ) else vot (1289 + 3 * v) a b c σ := by
    unfold f_MO_vote_210
    rw [e255, inb_n (by omega) (by omega), gd_t, nI_clamp (by omega), nI_add, inb_n (by omega) (by omega), gd_t, nI_clamp (by omega), nI_add, inb_n (by omega) (by omega), gd_t, nI_clamp (by omega), h.1 _ (by omega), h.1 _ (by omega), h.1 _ (by omega), show 1289 + 3 * v + 1 = 1289 + (3 * v + 1) by omega, show 1289 + 3 * v + 2 = 1289 + (3 * v + 2) by omega, w0.1, w1.1, w2.1]
    by_cases q0 : wsc N (3 * v) = a
    · rw [if_pos (by rw [q0])]
      by_cases q1 : wsc N (3 * v + 1) = b
      · rw [if_pos (by rw [q1])]
        by_cases q2 : wsc N (3 * v + 2) = c
        · rw [if_pos (by rw [q2]), if_pos ⟨⟨q0, q1⟩, q2⟩]
        · rw [if_neg (nI_ne (by omega) (by omega) q2), if_neg (fun u => q2 u.2)]
      · rw [if_neg (nI_ne (by omega) (by omega) q1), if_neg (fun u => q1 u.1.2)]
    · rw [if_neg (nI_ne (by omega) (by omega) q0), if_neg (fun u => q0 u.1.1)]
  rw [← e210]
  unfold f_MO_vote_141
  rw [hg, ht, bI_f, if_pos rfl, if_pos rfl, nI_mul, nI_add, lt']
  have s3 : ∀ p x y, f_MO_vote_193 (wI a) (wI b) (wI c) p x y σ = f_MO_vote_210 (wI a) (wI b) (wI c) p x y (nI c) σ := by
    intro p x y
    have := wI_1 hc
    unfold f_MO_vote_193
    by_cases z : wI c = -5
    · rw [if_pos z] at this ⊢; rw [this]
    · rw [if_neg z] at this ⊢; rw [this]
  have s2 : ∀ p x, f_MO_vote_178 (wI a) (wI b) (wI c) p x σ = f_MO_vote_210 (wI a) (wI b) (wI c) p x (nI b) (nI c) σ := by
    intro p x
    have := wI_1 hb
    unfold f_MO_vote_178
    by_cases z : wI b = -5
    · rw [if_pos z] at this ⊢; rw [this, s3]
    · rw [if_neg z] at this ⊢; rw [this, s3]
  have := wI_1 ha
  by_cases z : wI a = -5
  · rw [if_pos z] at this ⊢; rw [this, s2]
  · rw [if_neg z] at this ⊢; rw [this, s2]
def vN3 (N : Rw) (v a b c : Nat) : Rw := upd (upd (upd N (1289 + 3 * v) (nI a)) (1289 + 3 * v + 1) (nI b)) (1289 + 3 * v + 2) (nI c)
theorem vN3_e (N : Rw) {v a b c i : Nat} (hi : i < 1289 + 3 * v ∨ 1289 + 3 * v + 3 ≤ i) : vN3 N v a b c i = N i := by
  unfold vN3
  rw [upd_n _ _ (by omega), upd_n _ _ (by omega), upd_n _ _ (by omega)]
theorem vN3_w (N : Rw) {v a b c : Nat} (ha : a ≤ 20) (hb : b ≤ 20) (hc : c ≤ 20) (i : Nat) : wsc (vN3 N v a b c) i = if i = 3 * v + 2 then c else if i = 3 * v + 1 then b else if i = 3 * v then a else wsc N i := by
  unfold wsc vN3
  by_cases z : i = 3 * v + 2
  · rw [if_pos z, z, show 1289 + (3 * v + 2) = 1289 + 3 * v + 2 by omega, upd_s, vN_nI (by omega)]
  · rw [if_neg z, upd_n _ _ (by omega)]
    by_cases z1 : i = 3 * v + 1
    · rw [if_pos z1, z1, show 1289 + (3 * v + 1) = 1289 + 3 * v + 1 by omega, upd_s, vN_nI (by omega)]
    · rw [if_neg z1, upd_n _ _ (by omega)]
      by_cases z2 : i = 3 * v
      · rw [if_pos z2, z2, upd_s, vN_nI (by omega)]
      · rw [if_neg z2, upd_n _ _ (by omega)]
theorem inv_vote {N : Rw} (h : InvN N) {v a b c : Nat} (hv : v < 12) (ha : a ≤ ev N) (hb : b ≤ ev N) (hc : c ≤ ev N) (ht : twi a b c = false) : InvN (vN3 N v a b c) := by
  have hE := h.1.2
  have e : ∀ i, i < 1289 ∨ 1325 ≤ i → vN3 N v a b c i = N i := fun i hi => vN3_e N (by omega)
  have l := st_lk h (N' := vN3 N v a b c) (fun c hc => e _ (by omega))
  have s := st_s h (N' := vN3 N v a b c) (fun c hc => e _ (by omega))
  have ew := vN3_w N (v := v) (show a ≤ 20 by omega) (show b ≤ 20 by omega) (show c ≤ 20 by omega)
  have tt : (a ≠ 0 → a ≠ b ∧ a ≠ c) ∧ (b ≠ 0 → b ≠ c) := by
    have := ht
    simp [twi] at this
    exact ⟨fun z => ⟨(this.1 z).1, (this.1 z).2⟩, fun z => this.2 z⟩
  refine InvN.up h (fun j hj => e j (by omega)) (st_in h (fun c hc => e _ (by omega))) l.1 l.2.1 l.2.2 (fun i hi => ?_) (fun v' i j hv' hij hj => ?_) (st_p h (fun c hc => e _ (by omega))) s.1 s.2 (st_z h (fun c hc => e _ (by omega)))
  · rw [ew]
    by_cases z : i = 3 * v + 2
    · rw [if_pos z]
      refine ⟨?_, hc⟩
      unfold vN3
      rw [z, show 1289 + (3 * v + 2) = 1289 + 3 * v + 2 by omega, upd_s]
    · rw [if_neg z]
      by_cases z1 : i = 3 * v + 1
      · rw [if_pos z1]
        refine ⟨?_, hb⟩
        unfold vN3
        rw [z1, upd_n _ _ (by omega), show 1289 + (3 * v + 1) = 1289 + 3 * v + 1 by omega, upd_s]
      · rw [if_neg z1]
        by_cases z2 : i = 3 * v
        · rw [if_pos z2]
          refine ⟨?_, ha⟩
          unfold vN3
          rw [z2, upd_n _ _ (by omega), upd_n _ _ (by omega), upd_s]
        · rw [if_neg z2, vN3_e N (by omega)]
          exact h.2.2.2.2.2.2.2.1 i hi
  · rw [ew, ew]
    by_cases z : v' = v
    · subst z
      rcases (by omega : (i = 0 ∧ j = 1) ∨ (i = 0 ∧ j = 2) ∨ (i = 1 ∧ j = 2)) with u | u | u
      · rw [u.1, u.2, if_neg (by omega), if_neg (by omega), if_pos (by omega), if_neg (by omega), if_pos rfl]
        exact fun w => (tt.1 w).1
      · rw [u.1, u.2, if_neg (by omega), if_neg (by omega), if_pos (by omega), if_pos rfl]
        exact fun w => (tt.1 w).2
      · rw [u.1, u.2, if_neg (by omega), if_pos rfl, if_pos rfl]
        exact tt.2
    · rw [if_neg (by omega), if_neg (by omega), if_neg (by omega), if_neg (by omega), if_neg (by omega), if_neg (by omega)]
      exact h.2.2.2.2.2.2.2.2.1 v' i j hv' hij hj
theorem c_isFilled {σ : Sg} {N : Rw} (h : QS σ N) {v a b c : Nat} (hv : v < 12) (ha : a ≤ 20) (hb : b ≤ 20) (hc : c ≤ 20) : f_ST_isFilledIn (nI v) (wI a) (wI b) (wI c) σ = some (bI (decide ((wsc N (3 * v) = a ∧ wsc N (3 * v + 1) = b) ∧ wsc N (3 * v + 2) = c)), σ) := by
  have hE := h.2.1.1.2
  have w0 := (h.2.1.2.2.2.2.2.2.2.1 (3 * v) (by omega)).2
  have w1 := (h.2.1.2.2.2.2.2.2.2.1 (3 * v + 1) (by omega)).2
  have w2 := (h.2.1.2.2.2.2.2.2.2.1 (3 * v + 2) (by omega)).2
  unfold f_ST_isFilledIn
  rw [r_wish h hv (by decide), bd_s, r_wish h hv (by decide), bd_s, r_wish h hv (by decide), bd_s, Nat.add_zero]
  by_cases q0 : wsc N (3 * v) = a
  · rw [if_pos (by rw [q0])]
    by_cases q1 : wsc N (3 * v + 1) = b
    · rw [if_pos (by rw [q1])]
      by_cases q2 : wsc N (3 * v + 2) = c
      · rw [if_pos (by rw [q2]), decide_eq_true ⟨⟨q0, q1⟩, q2⟩]; rfl
      · rw [if_neg (fun u => q2 ((wI_inj (by omega) (by omega)).mp u)), decide_eq_false (fun u => q2 u.2)]; rfl
    · rw [if_neg (fun u => q1 ((wI_inj (by omega) (by omega)).mp u)), decide_eq_false (fun u => q1 u.1.2)]; rfl
  · rw [if_neg (fun u => q0 ((wI_inj (by omega) (by omega)).mp u)), decide_eq_false (fun u => q0 u.1.1)]; rfl
theorem c_wishesOf {σ : Sg} {N : Rw} (h : QS σ N) {v : Nat} (hv : v < 12) : f_ST_wishesOf (nI v) σ = some (nI (cnt (fun i => !(decide (wsc N (3 * v + i) = 0))) 3), σ) := by
  have hE := h.2.1.1.2
  unfold f_ST_wishesOf
  refine lpS (fun n i y => f_ST_wishesOf_4 n (nI v) (nI y) (nI i) σ) 3 (fun i => b2n (!(decide (wsc N (3 * v + i) = 0)))) (fun y => some (nI y, σ)) ?_ ?_ FU (by decide)
  · intro n i y hi hy
    have w0 := (h.2.1.2.2.2.2.2.2.2.1 (3 * v + i) (by omega)).2
    show f_ST_wishesOf_4 (n + 1) (nI v) (nI y) (nI i) σ = _
    rw [f_ST_wishesOf_4, if_neg (nI_ge hi (by decide)), r_wish h hv hi, bd_s, nI_add, nI_add]
    by_cases z : wsc N (3 * v + i) = 0
    · rw [if_pos ((wI_5 (by omega)).mpr z), decide_eq_true z]; rfl
    · rw [if_neg (fun w => z ((wI_5 (by omega)).mp w)), decide_eq_false z]; rfl
  · intro n
    show f_ST_wishesOf_4 (n + 1) (nI v) _ (nI 3) σ = _
    rw [f_ST_wishesOf_4, if_pos (Int32.le_refl _)]
theorem op_vote (x1 x2 x3 x4 : Int32) : Ok2 (f_CT_vote x1 x2 x3 x4) (f_MO_vote x1 x2 x3 x4) := Ok2.mk (fun A hA => by
  show One _ _ A
  have hE := hA.1.1.2
  by_cases q : plc 12 x1 < 12
  case neg =>
    refine One.same hA (-1) (fun σ h => ?_) (fun σ h => ?_)
    · unfold f_CT_vote; rw [s_idx _ _ _ (by decide), bd_s, decide_eq_false q, bI_f, if_pos rfl]
    · rw [m_vote49 (h.mr hA)]; unfold f_MO_vote_49; rw [m_inP σ x1 11 (by decide), bd_s, decide_eq_false q, bI_f, if_pos rfl]
  obtain ⟨v, hv, e1⟩ := ix3 (by decide) q
  subst e1
  have bad : (wk' A.N x2 && wk' A.N x3 && wk' A.N x4) = false → ∀ σ, RI A σ → f_MO_vote (nI v) x2 x3 x4 σ = some (-1, σ) := by
    intro hb σ h
    rw [m_vote49 (h.mr hA), hb]
    unfold f_MO_vote_49
    rw [m_inP σ _ 11 (by decide), bd_s, decide_eq_true q, if_neg (by decide), bI_f, if_pos rfl]
  have cs : ∀ σ, CI A σ → f_CT_vote (nI v) x2 x3 x4 σ = if wk' A.N x2 = false then some (-1, σ) else if wk' A.N x3 = false then some (-1, σ) else if wk' A.N x4 = false then some (-1, σ) else bd (f_CT_hasGap x2 x3 x4 σ) fun r13 σ14 => if r13 = nI 0 then bd (f_CT_isTwice x2 x3 x4 σ14) fun r16 σ17 => if r16 = nI 0 then bd (f_ST_isFilledIn (nI v) x2 x3 x4 σ17) fun r19 σ20 => if r19 = nI 0 then bd (f_HI_record σ20) fun r22 σ23 => bd (f_ST_fillIn (nI v) x2 x3 x4 σ23) fun r24 σ25 => bd (f_ST_wishesOf (nI v) σ25) fun r26 σ27 => some (r26, σ27) else some (-5, σ20) else some (-2, σ17) else some (-2, σ14) := by
    intro σ h
    unfold f_CT_vote
    rw [s_idx _ _ _ (by decide), bd_s, decide_eq_true q, if_neg (by decide), c_isWish (h.qs hA), bd_s, c_isWish (h.qs hA), bd_s, c_isWish (h.qs hA), bd_s]
    cases wk' A.N x2
    · rfl
    · cases wk' A.N x3
      · rfl
      · cases wk' A.N x4 <;> rfl
  cases k2 : wk' A.N x2
  · exact One.same hA (-1) (fun σ h => by rw [cs σ h, if_pos k2]) (bad (by rw [k2]; rfl))
  cases k3 : wk' A.N x3
  · exact One.same hA (-1) (fun σ h => by rw [cs σ h, if_neg (by rw [k2]; decide), if_pos k3]) (bad (by rw [k2, k3]; rfl))
  cases k4 : wk' A.N x4
  · exact One.same hA (-1) (fun σ h => by rw [cs σ h, if_neg (by rw [k2]; decide), if_neg (by rw [k3]; decide), if_pos k4]) (bad (by rw [k2, k3, k4]; rfl))
  obtain ⟨a, a1, a2⟩ := wk_arg hA.1 k2
  obtain ⟨b, b1, b2⟩ := wk_arg hA.1 k3
  obtain ⟨c, c1, c2⟩ := wk_arg hA.1 k4
  subst a1
  subst b1
  subst c1
  have cs2 : ∀ σ, CI A σ → f_CT_vote (nI v) (wI a) (wI b) (wI c) σ = if bI (gap a b c) = nI 0 then (if bI (twi a b c) = nI 0 then (if bI (decide ((wsc A.N (3 * v) = a ∧ wsc A.N (3 * v + 1) = b) ∧ wsc A.N (3 * v + 2) = c)) = nI 0 then bd (f_HI_record σ) fun r22 σ23 => bd (f_ST_fillIn (nI v) (wI a) (wI b) (wI c) σ23) fun r24 σ25 => bd (f_ST_wishesOf (nI v) σ25) fun r26 σ27 => some (r26, σ27) else some (-5, σ)) else some (-2, σ)) else some (-2, σ) := by
    intro σ h
    rw [cs σ h, if_neg (by rw [k2]; decide), if_neg (by rw [k3]; decide), if_neg (by rw [k4]; decide), c_hasGap σ (by omega) (by omega) (by omega), bd_s, c_isTwice σ (by omega) (by omega) (by omega), bd_s, c_isFilled (h.qs hA) hv (by omega) (by omega) (by omega), bd_s]
  have ms : ∀ σ, RI A σ → f_MO_vote (nI v) (wI a) (wI b) (wI c) σ = f_MO_vote_141 (nI v) (wI a) (wI b) (wI c) (bI (gap a b c)) (bI (twi a b c)) σ := by
    intro σ h
    rw [m_vote49 (h.mr hA), k2, k3, k4, show (true && true && true) = true from rfl, m_vote105 σ hv (by omega) (by omega) (by omega), m_vote141 σ _ _ (by omega) (by omega) (by omega)]
  cases hg : gap a b c
  case true =>
    refine One.same hA (-2) (fun σ h => ?_) (fun σ h => ?_)
    · rw [cs2 σ h, hg, if_neg (by decide)]
    · rw [ms σ h]; unfold f_MO_vote_141; rw [hg, if_neg (by decide)]
  cases ht : twi a b c
  case true =>
    refine One.same hA (-2) (fun σ h => ?_) (fun σ h => ?_)
    · rw [cs2 σ h, hg, ht, if_pos (by decide), if_neg (by decide)]
    · rw [ms σ h]; unfold f_MO_vote_141; rw [hg, ht, if_pos (by decide), if_neg (by decide)]
  by_cases hf : (wsc A.N (3 * v) = a ∧ wsc A.N (3 * v + 1) = b) ∧ wsc A.N (3 * v + 2) = c
  · refine One.same hA (-5) (fun σ h => ?_) (fun σ h => ?_)
    · rw [cs2 σ h, hg, ht, if_pos (by decide), if_pos (by decide), decide_eq_true hf, if_neg (by decide)]
    · rw [ms σ h, m_vote210 (h.mr hA) hv (by omega) (by omega) (by omega) hg ht, if_pos hf]
  have hN := inv_vote hA.1 hv a2 b2 c2 ht
  have ew := vN3_w A.N (v := v) (show a ≤ 20 by omega) (show b ≤ 20 by omega) (show c ≤ 20 by omega)
  have e : ∀ i, i < 1289 ∨ 1325 ≤ i → vN3 A.N v a b c i = A.N i := fun i hi => vN3_e A.N (by omega)
  refine One.chg hA (vN3 A.N v a b c) (nI (b2n (!(decide (a = 0))) + b2n (!(decide (b = 0))) + b2n (!(decide (c = 0))))) hN (fun σ y h h1 h2 h3 => ?_) (fun σ y h h1 h2 h3 => ?_)
  · have r := h3.1
    have rel : RelS (fun k => up (up (up y 9 (3 * v) (wI a)) 9 (3 * v + 1) (wI b)) 9 (3 * v + 2) (wI c) k) (vN3 A.N v a b c) := by
      have u9 : ∀ k, k ≠ 9 → up (up (up y 9 (3 * v) (wI a)) 9 (3 * v + 1) (wI b)) 9 (3 * v + 2) (wI c) k = y k := fun k hk => by rw [up_n _ _ _ hk, up_n _ _ _ hk, up_n _ _ _ hk]
      refine RelS.up (S := fun k => y k) r hA.1 (fun i hi => e i (by omega)) (fun k hk => u9 k (by omega)) (rs_1 r (fun c hc => e _ (by omega)) (u9 1 (by decide))) (rs_8 r (fun c hc => e _ (by omega)) (u9 8 (by decide))) (fun i hi => ?_) (rs_10 r (fun c hc => e _ (by omega)) (u9 10 (by decide))) (rs_11 r (fun c hc => e _ (by omega)) (u9 11 (by decide))) (rs_12 r (fun c hc => e _ (by omega)) (u9 12 (by decide)))
      show up (up (up y 9 (3 * v) (wI a)) 9 (3 * v + 1) (wI b)) 9 (3 * v + 2) (wI c) 9 i = _
      rw [up_s, up_s, up_s, ew]
      by_cases z : i = 3 * v + 2
      · rw [if_pos z, z, upd_s]
      · rw [if_neg z, upd_n _ _ z]
        by_cases z1 : i = 3 * v + 1
        · rw [if_pos z1, z1, upd_s]
        · rw [if_neg z1, upd_n _ _ z1]
          by_cases z2 : i = 3 * v
          · rw [if_pos z2, z2, upd_s]
          · rw [if_neg z2, upd_n _ _ z2]; exact r.2.2.2.2.2.2.2.2.2.1 i hi
    refine ⟨_, ?_, rel, fun k hk => by rw [up_n _ _ _ (by omega), up_n _ _ _ (by omega), up_n _ _ _ (by omega)]⟩
    rw [cs2 σ h, hg, ht, if_pos (by decide), if_pos (by decide), decide_eq_false hf, if_pos (by decide), h1, bd_s]
    unfold f_ST_fillIn
    rw [nI_mul, nI_add, nI_add, show v * 3 = 3 * v by omega, s_put _ _ _ _ _ (by omega) (by decide), bd_s, s_put _ _ _ _ _ (by omega) (by decide), bd_s, s_put _ _ _ _ _ (by omega) (by decide), bd_s, bd_s, c_wishesOf ⟨trivial, hN, rel⟩ hv, bd_s]
    have e3 : cnt (fun i => !(decide (wsc (vN3 A.N v a b c) (3 * v + i) = 0))) 3 = b2n (!(decide (a = 0))) + b2n (!(decide (b = 0))) + b2n (!(decide (c = 0))) := by
      rw [cnt_s, cnt_s, cnt_s, ew, ew, ew, if_neg (by omega), if_neg (by omega), if_pos (by omega), if_neg (by omega), if_pos rfl, if_pos rfl]
      show 0 + _ + _ + _ = _
      omega
    rw [e3]
  · rw [ms σ h, m_vote210 (h.mr hA) hv (by omega) (by omega) (by omega) hg ht, if_neg hf]
    unfold vot
    rw [h1, bd_s]
    refine ⟨_, rfl, fun i hi => ?_, fun k hk => by rw [up_n _ _ _ hk, up_n _ _ _ hk, up_n _ _ _ hk]⟩
    unfold vN3
    rw [up_s, up_s, up_s]
    by_cases z : i = 1289 + 3 * v + 2
    · rw [z, upd_s, upd_s]
    · rw [upd_n _ _ z, upd_n _ _ z]
      by_cases z1 : i = 1289 + 3 * v + 1
      · rw [z1, upd_s, upd_s]
      · rw [upd_n _ _ z1, upd_n _ _ z1]
        by_cases z2 : i = 1289 + 3 * v
        · rw [z2, upd_s, upd_s]
        · rw [upd_n _ _ z2, upd_n _ _ z2]; exact h3.1 i hi)
end VOTE
