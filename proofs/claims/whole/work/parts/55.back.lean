section BACK
theorem relz {x y : Sg} {N : Rw} (hN : InvN N) (h : RelS (fun k => x k) N) (e : ∀ k, k < 13 → y k = x k) : RelS (fun k => y k) N :=
  RelS.cong h (fun k i hk _ => by rw [e k hk]) hN.1.2 (fun c hc => (hN.2.2.2.1 c hc).2) (fun c hc => hN.cl hc)
theorem rel0 {x : Sg} {N : Rw} : RelS (fun k => x (0 + k)) N ↔ RelS (fun k => x k) N := by
  have e : (fun k => x (0 + k)) = fun k => x k := funext fun k => by rw [Nat.zero_add]
  rw [e]
theorem op_undo : Ok2 f_CT_undo f_MO_undo := Ok2.mk (fun A hA => by
  have h4 := hA.2.1.1
  by_cases q : A.n = 0
  · refine One.same hA (-5) (fun σ h => ?_) (fun σ h => ?_)
    · unfold f_CT_undo f_HI_size; rw [bd_s, h.2.1.1, if_pos (by rw [q])]
    · unfold f_MO_undo; rw [h.2.1.1, if_pos (by rw [q])]
  obtain ⟨m, hm⟩ : ∃ m, A.n = m + 1 := ⟨A.n - 1, by omega⟩
  have hMm : InvN (A.M m) := hA.2.1.2 m (by omega)
  refine ⟨(A.M m, (m, A.M), A.2.2), nI m, ⟨hMm, ⟨by show m ≤ 4; omega, fun i hi => hA.2.1.2 i (by have : i < m := hi; omega)⟩, hA.2.2⟩, fun σ h => ?_, fun σ h => ?_⟩
  · obtain ⟨h1, ⟨h2, T, h3, h4', h5⟩, ⟨h6, h7⟩, h8, h9⟩ := h
    obtain ⟨t1, t2⟩ := h3 m (by omega)
    have hS : isSt (T m) = true := by rcases t1 with e | e | e | e <;> rw [e] <;> decide
    have e0 : ∀ c, c ≠ 80 → up σ 80 1 (nI m) c = σ c := fun c a => up_n _ _ _ a
    obtain ⟨y, y1, y2, y3⟩ := c_copy (σ := up σ 80 1 (nI m)) (a0 := 0) (a1 := T m) hMm (RelS.bl hMm (h5 m (by show m < A.n; omega)) (fun k hk => e0 _ (by omega))) (by omega)
    unfold f_CT_undo f_HI_size f_HI_takeBack
    rw [bd_s, h2, if_neg (fun w => by have := (nI_eq (by omega) (by decide)).mp w; omega), hm, mI_sub, mI_s (by omega), show m + 1 - 1 = m by omega, s_idxN _ _ _ (by omega) (by decide), bd_s, decide_eq_true (show m < 4 by omega), if_neg (by decide), h2, hm, mI_sub, mI_s (by omega), show m + 1 - 1 = m by omega, lt', up_s, upd_s, inb_n (by omega) (by omega), gd_t, nI_clamp (by omega), e0 81 (by decide), t2, nI_clamp (by omega), hS, gd_t, y1, bd_s, bd_s, bd_s, y2 80 (by omega), up_s, upd_s]
    refine ⟨y, rfl, ⟨rel0.mp y3, ⟨by rw [y2 80 (by omega), up_s, upd_s], T, fun i hi => by rw [y2 81 (by omega), e0 81 (by decide)]; exact h3 i hi, h4', fun i hi => ?_⟩, ⟨by rw [y2 111 (by omega), e0 111 (by decide)]; exact h6, fun hb => RelS.bl (hA.2.2.1 hb) (h7 hb) (fun k hk => by rw [y2 _ (by omega), e0 _ (by omega)])⟩, by rw [y2 78 (by omega), e0 78 (by decide)]; exact h8, fun k hk => by rw [y2 79 (by omega), e0 79 (by decide)]; exact h9 k hk⟩, fun c hc => by rw [y2 c (by omega), e0 c (by omega)]⟩
    have hi : i < m := hi
    have := (h3 i (by omega)).1
    exact RelS.bl (hA.2.1.2 i (by omega)) (h5 i (by show i < A.n; omega)) (fun k hk => by rw [y2 _ (by omega), e0 _ (by omega)])
  · obtain ⟨h1, ⟨h2, h3⟩, ⟨h4', h5⟩, h6, h7⟩ := h
    unfold f_MO_undo
    rw [h2, if_neg (fun w => by have := (nI_eq (by omega) (by decide)).mp w; omega), hm, mI_sub, mI_s (by omega), show m + 1 - 1 = m by omega, lt']
    refine Exists.elim (lpI (fun n i (x : Sg) => f_MO_undo_22 n (nI i) x) 1385 (fun i x => Fr [113] (up σ 112 4 (nI m)) x ∧ ∀ j, j < i → x 113 j = A.M m j) ?_ 0 FU (up σ 112 4 (nI m)) (Nat.zero_le _) (by decide) ⟨Fr.rf _ _, fun j hj => absurd hj (Nat.not_lt_zero _)⟩) ?_
    · intro n i x hi hI
      obtain ⟨hF, hJ⟩ := hI
      show ∃ y, _ ∧ f_MO_undo_22 (n + 1) (nI i) x = _
      rw [f_MO_undo_22, if_neg (nI_ge hi (by decide)), hF 112 (by decide), up_s, upd_s, nI_mul, nI_add, inb_n (by omega) (by omega), gd_t, inb_n hi (by omega), gd_t, nI_clamp (by omega), nI_clamp (by omega), hF 115 (by decide), up_n _ _ _ (by decide), h3 m i (by show m < A.n; omega) hi, lt', nI_add]
      refine ⟨_, ⟨hF.up _ _ (by decide), fun j hj => ?_⟩, rfl⟩
      rw [up_s]
      by_cases z : j = i
      · rw [z, upd_s]
      · rw [upd_n _ _ z]; exact hJ j (by omega)
    · rintro n ⟨x, ⟨hF, hJ⟩, heq⟩
      have e : ∀ i, i ≠ 4 → x 112 i = σ 112 i := fun i hi => by rw [hF 112 (by decide), up_s, upd_n _ _ hi]
      have e2 : ∀ c, c ≠ 112 → c ≠ 113 → x c = σ c := fun c a b => by rw [hF c (by simp; exact b), up_n _ _ _ a]
      refine ⟨x, heq.trans ?_, ⟨hJ, ⟨by rw [hF 112 (by decide), up_s, upd_s], fun i j hi hj => by rw [e2 115 (by decide) (by decide)]; exact h3 i j (by have hi : i < m := hi; show i < A.n; omega) hj⟩, ⟨by rw [e 6 (by decide)]; exact h4', fun hb i hi => by rw [e2 114 (by decide) (by decide)]; exact h5 hb i hi⟩, by rw [e 5 (by decide)]; exact h6, fun k hk => by rw [e2 116 (by decide) (by decide)]; exact h7 k hk⟩, fun c hc => e2 c (by omega) (by omega)⟩
      show f_MO_undo_22 (n + 1) (nI 1385) x = _
      rw [f_MO_undo_22, if_pos (Int32.le_refl _), hF 112 (by decide), up_s, upd_s])
theorem op_keep : Ok2 f_CT_keep f_MO_keep := Ok2.mk (fun A hA => by
  refine ⟨(A.N, A.2.1, (true, A.N), A.2.2.2), nI (cnt (inn A.N) 20), ⟨hA.1, hA.2.1, fun _ => hA.1, hA.2.2.2⟩, fun σ h => ?_, fun σ h => ?_⟩
  · obtain ⟨y, y1, y2, y3⟩ := c_copy (σ := σ) (a0 := 13) (a1 := 0) hA.1 (rel0.mpr h.1) (by omega)
    obtain ⟨h1, ⟨h2, T, h3, h4', h5⟩, ⟨h6, h7⟩, h8, h9⟩ := h
    have e0 : ∀ c, c < 13 ∨ 26 ≤ c → c ≠ 111 → up y 111 4 (nI 1) c = σ c := fun c a b => by rw [up_n _ _ _ b, y2 c (by omega)]
    have rel : RelS (fun k => up y 111 4 (nI 1) k) A.N := relz hA.1 h1 (fun k hk => e0 k (by omega) (by omega))
    unfold f_CT_keep
    rw [y1, bd_s, lt', r_capsIn ⟨trivial, hA.1, rel⟩, bd_s]
    refine ⟨_, rfl, ⟨rel, ⟨by rw [e0 80 (by omega) (by decide)]; exact h2, T, fun i hi => by rw [e0 81 (by omega) (by decide)]; exact h3 i hi, h4', fun i hi => ?_⟩, ⟨by rw [up_s, upd_s]; rfl, fun _ => RelS.bl hA.1 y3 (fun k hk => up_n _ _ _ (by omega))⟩, by rw [e0 78 (by omega) (by decide)]; exact h8, fun k hk => by rw [e0 79 (by omega) (by decide)]; exact h9 k hk⟩, fun c hc => e0 c (by omega) (by omega)⟩
    have := (h3 i (by have : i < A.n := hi; have := hA.2.1.1; omega)).1
    exact RelS.bl (hA.2.1.2 i hi) (h5 i hi) (fun k hk => e0 _ (by omega) (by omega))
  · obtain ⟨h1, ⟨h2, h3⟩, ⟨h4', h5⟩, h6, h7⟩ := h
    unfold f_MO_keep
    refine Exists.elim (lpI (fun n i (x : Sg) => f_MO_keep_2 n (nI i) x) 1385 (fun i x => Fr [114] σ x ∧ ∀ j, j < i → x 114 j = A.N j) ?_ 0 FU σ (Nat.zero_le _) (by decide) ⟨Fr.rf _ _, fun j hj => absurd hj (Nat.not_lt_zero _)⟩) ?_
    · intro n i x hi hI
      obtain ⟨hF, hJ⟩ := hI
      show ∃ y, _ ∧ f_MO_keep_2 (n + 1) (nI i) x = _
      rw [f_MO_keep_2, if_neg (nI_ge hi (by decide)), inb_n hi (by omega), gd_t, gd_t, nI_clamp (by omega), hF 113 (by decide), h1 i hi, lt', nI_add]
      refine ⟨_, ⟨hF.up _ _ (by decide), fun j hj => ?_⟩, rfl⟩
      rw [up_s]
      by_cases z : j = i
      · rw [z, upd_s]
      · rw [upd_n _ _ z]; exact hJ j (by omega)
    · rintro n ⟨x, ⟨hF, hJ⟩, heq⟩
      have e : ∀ i, i ≠ 6 → up x 112 6 (nI 1) 112 i = σ 112 i := fun i hi => by rw [up_s, upd_n _ _ hi, hF 112 (by decide)]
      have e2 : ∀ c, c ≠ 112 → c ≠ 114 → up x 112 6 (nI 1) c = σ c := fun c a b => by rw [up_n _ _ _ a, hF c (by simp; exact b)]
      have r : ∀ i, i < 1385 → up x 112 6 (nI 1) 113 i = A.N i := fun i hi => by rw [e2 113 (by decide) (by decide)]; exact h1 i hi
      refine ⟨up x 112 6 (nI 1), heq.trans ?_, ⟨r, ⟨by rw [e 4 (by decide)]; exact h2, fun i j hi hj => by rw [e2 115 (by decide) (by decide)]; exact h3 i j hi hj⟩, ⟨by rw [up_s, upd_s]; rfl, fun _ i hi => by rw [up_n _ _ _ (by decide)]; exact hJ i hi⟩, by rw [e 5 (by decide)]; exact h6, fun k hk => by rw [e2 116 (by decide) (by decide)]; exact h7 k hk⟩, fun c hc => e2 c (by omega) (by omega)⟩
      show f_MO_keep_2 (n + 1) (nI 1385) x = _
      rw [f_MO_keep_2, if_pos (Int32.le_refl _), lt', m_there ⟨r, hA.1⟩, bd_s])
theorem op_restore : Ok2 f_CT_restore f_MO_restore := Ok2.mk (fun A hA => by
  show One _ _ A
  cases q : A.b
  · refine One.same hA (-5) (fun σ h => ?_) (fun σ h => ?_)
    · unfold f_CT_restore; rw [h.2.2.1.1, if_pos (by rw [q]; rfl)]
    · unfold f_MO_restore; rw [h.2.2.1.1, if_pos (by rw [q]; rfl)]
  have hS := hA.2.2.1 q
  refine One.chg hA A.S (nI (cnt (inn A.S) 20)) hS (fun σ y h h1 h2 h3 => ?_) (fun σ y h h1 h2 h3 => ?_)
  · obtain ⟨z, z1, z2, z3⟩ := c_copy (σ := y) (a0 := 0) (a1 := 13) hS (h3.2.2.1.2 q) (by omega)
    unfold f_CT_restore
    rw [h.2.2.1.1, if_neg (by rw [q]; decide), h1, bd_s, z1, bd_s, r_capsIn ⟨trivial, hS, rel0.mp z3⟩, bd_s]
    exact ⟨z, rfl, rel0.mp z3, fun c hc => z2 c (by omega)⟩
  · unfold f_MO_restore
    rw [h.2.2.1.1, if_neg (by rw [q]; decide), h1, bd_s]
    have hs := h3.2.2.1.2 q
    refine Exists.elim (lpI (fun n i (x : Sg) => f_MO_restore_16 n (nI i) x) 1385 (fun i x => Fr [113] y x ∧ ∀ j, j < i → x 113 j = A.S j) ?_ 0 FU y (Nat.zero_le _) (by decide) ⟨Fr.rf _ _, fun j hj => absurd hj (Nat.not_lt_zero _)⟩) ?_
    · intro n i x hi hI
      obtain ⟨hF, hJ⟩ := hI
      show ∃ y, _ ∧ f_MO_restore_16 (n + 1) (nI i) x = _
      rw [f_MO_restore_16, if_neg (nI_ge hi (by decide)), inb_n hi (by omega), gd_t, gd_t, nI_clamp (by omega), hF 114 (by decide), hs i hi, lt', nI_add]
      refine ⟨_, ⟨hF.up _ _ (by decide), fun j hj => ?_⟩, rfl⟩
      rw [up_s]
      by_cases z : j = i
      · rw [z, upd_s]; rfl
      · rw [upd_n _ _ z]; exact hJ j (by omega)
    · rintro n ⟨x, ⟨hF, hJ⟩, heq⟩
      refine ⟨x, heq.trans ?_, hJ, fun c hc => hF c (by simp; exact hc)⟩
      show f_MO_restore_16 (n + 1) (nI 1385) x = _
      rw [f_MO_restore_16, if_pos (Int32.le_refl _), m_there ⟨hJ, hS⟩, bd_s])
end BACK
