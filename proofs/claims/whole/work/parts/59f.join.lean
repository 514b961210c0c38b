theorem One.chg3 {f g : Sg → Option (Int32 × Sg)} {A : Ab} (hA : OKA A) (N' : Rw) (r : Int32) (hN : InvN N')
    (hc : ∀ σ, CI A σ → ∃ w, Fr QC σ w ∧ ∀ y, f_HI_record w = some (0, y) → CI A.rec' y → ∃ x z, RelS (fun k => x k) N' ∧ (∀ c, 13 ≤ c → x c = y c) ∧ (QS x N' → f σ = some (r, z) ∧ Fr QC x z))
    (hr : ∀ σ, RI A σ → ∃ w, (Fr QM σ w ∧ ∀ i, i ≠ 23 → w 112 i = σ 112 i) ∧ ∀ y, f_MO_record w = some (0, y) → RI A.rec' y → ∃ x z, (∀ i, i < 1385 → x 113 i = N' i) ∧ (∀ c, c ≠ 113 → x c = y c) ∧ g σ = some (r, z) ∧ Fr QM x z ∧ ∀ i, i ≠ 23 → z 112 i = x 112 i) : One f g A := by
  refine ⟨(N', A.rec'.2), r, ⟨hN, hA.rec'.2⟩, fun σ h => ?_, fun σ h => ?_⟩
  · obtain ⟨w, w1, w2⟩ := hc σ h
    obtain ⟨y, y1, y2, y3⟩ := c_record hA (h.fr hA w1 (by decide))
    obtain ⟨x, z, z1, z2, z3⟩ := w2 y y1 y3
    obtain ⟨z4, z5⟩ := z3 ⟨trivial, hN, z1⟩
    have cx : CI (N', A.rec'.2) x := CI.cur hA.rec' y3 (fun c hc => z2 c (by omega)) z1
    exact ⟨z, z4, cx.fr ⟨hN, hA.rec'.2⟩ z5 (by decide), fun c hc => (((z5 c (by simp [QC]; omega)).trans (z2 c (by omega))).trans (y2 c (by omega))).trans (w1 c (by simp [QC]; omega))⟩
  · obtain ⟨w, ⟨w1, w3⟩, w2⟩ := hr σ h
    obtain ⟨y, y1, y2, y3, y4⟩ := m_record hA (h.fr w1 (by decide) w3)
    obtain ⟨x, z, z1, z2, z3, z4, z5⟩ := w2 y y1 y4
    have rx : RI (N', A.rec'.2) x := RI.cur y4 (fun c hc => z2 c (by omega)) z1
    exact ⟨z, z3, rx.fr z4 (by decide) z5, fun c hc => (((z4 c (by simp [QM]; omega)).trans (z2 c (by omega))).trans (y2 c (by simp; omega))).trans (w1 c (by simp [QM]; omega))⟩
section JOIN
def lm (N : Rw) (x : Nat) : Nat := vN (N (49 + x))
def jN (N : Rw) (a b : Nat) : Rw := upd (upd N (49 + a) (nI (lm N a ||| 2 ^ b))) (49 + b) (nI (lm N b ||| 2 ^ a))
theorem jN_lm {N : Rw} (h : InvN N) {a b : Nat} (ha : a < 20) (hb : b < 20) (hab : a ≠ b) (x : Nat) : jN N a b (49 + x) = if x = b then nI (lm N b ||| 2 ^ a) else if x = a then nI (lm N a ||| 2 ^ b) else N (49 + x) := by
  unfold jN
  by_cases z : x = b
  · rw [if_pos z, z, upd_s]
  · rw [if_neg z, upd_n _ _ (by omega)]
    by_cases w : x = a
    · rw [if_pos w, w, upd_s]
    · rw [if_neg w, upd_n _ _ (by omega)]
theorem jN_e (N : Rw) {a b i : Nat} (ha : a < 20) (hb : b < 20) (hi : i < 49 ∨ 69 ≤ i) : jN N a b i = N i := by
  unfold jN
  rw [upd_n _ _ (by omega), upd_n _ _ (by omega)]
theorem jN_lk {N : Rw} (h : InvN N) {a b : Nat} (ha : a < 20) (hb : b < 20) (hab : a ≠ b) (x y : Nat) : lkd (jN N a b) x y = (lkd N x y || (decide (x = a) && decide (y = b)) || (decide (x = b) && decide (y = a))) := by
  have la := (h.2.2.2.2.1 a ha).2
  have lb := (h.2.2.2.2.1 b hb).2
  have oa := or_lt (m := lm N a) la hb
  have ob := or_lt (m := lm N b) lb ha
  unfold lkd
  rw [jN_lm h ha hb hab]
  by_cases z : x = b
  · rw [if_pos z, vN_nI (by omega), or_bit, z, decide_eq_false (p := b = a) (fun w => hab w.symm), decide_eq_true (p := b = b) rfl, Bool.false_and, Bool.or_false, Bool.true_and]
    unfold lm
    congr 1
    exact decide_eq_decide.mpr ⟨fun w => w.symm, fun w => w.symm⟩
  · rw [if_neg z, decide_eq_false z, Bool.false_and, Bool.or_false]
    by_cases w : x = a
    · rw [if_pos w, vN_nI (by omega), or_bit, w, decide_eq_true (p := a = a) rfl, Bool.true_and]
      unfold lm
      congr 1
      exact decide_eq_decide.mpr ⟨fun w => w.symm, fun w => w.symm⟩
    · rw [if_neg w, decide_eq_false w, Bool.false_and, Bool.or_false]
theorem inv_join {N : Rw} (h : InvN N) {a b : Nat} (ha : a < 20) (hb : b < 20) (hab : a ≠ b) : InvN (jN N a b) := by
  have e : ∀ i, i < 49 ∨ 69 ≤ i → jN N a b i = N i := fun i hi => jN_e N ha hb hi
  have w := st_w h (N' := jN N a b) (fun c hc => e _ (by omega))
  have s := st_s h (N' := jN N a b) (fun c hc => e _ (by omega))
  have la := (h.2.2.2.2.1 a ha).2
  have lb := (h.2.2.2.2.1 b hb).2
  have oa := or_lt (m := lm N a) la hb
  have ob := or_lt (m := lm N b) lb ha
  refine InvN.up h (fun j hj => e j (by omega)) (st_in h (fun c hc => e _ (by omega))) (fun c hc => ?_) (fun x y hx hy => ?_) (fun x hx => ?_) w.1 w.2 (st_p h (fun c hc => e _ (by omega))) s.1 s.2 (st_z h (fun c hc => e _ (by omega)))
  · rw [jN_lm h ha hb hab]
    by_cases z : c = b
    · rw [if_pos z, vN_nI (by omega)]; exact ⟨rfl, ob⟩
    · rw [if_neg z]
      by_cases u : c = a
      · rw [if_pos u, vN_nI (by omega)]; exact ⟨rfl, oa⟩
      · rw [if_neg u]; exact h.2.2.2.2.1 c hc
  · rw [jN_lk h ha hb hab, jN_lk h ha hb hab, h.2.2.2.2.2.1 x y hx hy]
    cases lkd N y x <;> cases decide (x = a) <;> cases decide (y = b) <;> cases decide (x = b) <;> cases decide (y = a) <;> rfl
  · rw [jN_lk h ha hb hab, h.2.2.2.2.2.2.1 x hx]
    by_cases z : x = a
    · rw [decide_eq_true z, decide_eq_false (show ¬ x = b by omega)]; rfl
    · rw [decide_eq_false z, Bool.and_false]; rfl
theorem c_putLink {σ : Sg} {a b : Nat} {v : Bool} (ha : a < 20) (hb : b < 20) : f_ST_putLink (nI a) (nI b) (bI v) σ = some (0, up (up σ 8 (20 * a + b) (bI v)) 8 (20 * b + a) (bI v)) := by
  unfold f_ST_putLink
  rw [s_idxN _ _ _ (by omega) (by decide), bd_s, decide_eq_true ha, if_neg (by decide), s_idxN _ _ _ (by omega) (by decide), bd_s, decide_eq_true hb, if_neg (by decide), nI_mul, nI_add, nI_mul, nI_add, show a * 20 + b = 20 * a + b by omega, show b * 20 + a = 20 * b + a by omega, inb_n (by omega) (by omega), gd_t, bI_bit, gd_t, nI_clamp (by omega), lt', inb_n (by omega) (by omega), gd_t, gd_t, nI_clamp (by omega), lt']
theorem hd_ne {σ : Sg} {N : Rw} {a b : Nat} (ha : a < 20) (hb : b < 20) : (nI (hd N a) = nI (hd N b)) ↔ hd N a = hd N b := by
  have la := hd_le N a
  have lb := hd_le N b
  exact nI_eq (by omega) (by omega)
theorem op_join (x1 x2 : Int32) : Ok2 (f_CT_join x1 x2) (f_MO_join x1 x2) := Ok2.mk (fun A hA => by
  show One _ _ A
  cases q : inn A.N (plc 20 x1)
  · refine One.same hA (-1) (fun σ h => ?_) (fun σ h => ?_)
    · unfold f_CT_join; rw [r_isIn (h.qs hA), bd_s, q, bI_f, if_pos rfl]
    · unfold f_MO_join; rw [m_is (h.mr hA), bd_s, q, bI_f, if_pos rfl]
  cases q2 : inn A.N (plc 20 x2)
  · refine One.same hA (-1) (fun σ h => ?_) (fun σ h => ?_)
    · unfold f_CT_join; rw [r_isIn (h.qs hA), bd_s, q, if_neg (by decide), r_isIn (h.qs hA), bd_s, q2, bI_f, if_pos rfl]
    · unfold f_MO_join; rw [m_is (h.mr hA), bd_s, q, if_neg (by decide), m_is (h.mr hA), bd_s, q2, bI_f, if_pos rfl]
  obtain ⟨a, a1, a2, a3, a4⟩ := inn_arg hA.1 q
  obtain ⟨b, b1, b2, b3, b4⟩ := inn_arg hA.1 q2
  subst a3
  subst b3
  by_cases hab : a = b
  · refine One.same hA (-2) (fun σ h => ?_) (fun σ h => ?_)
    · unfold f_CT_join; rw [r_isIn (h.qs hA), bd_s, q, if_neg (by decide), r_isIn (h.qs hA), bd_s, q2, if_neg (by decide), if_pos (by rw [hab])]
    · unfold f_MO_join; rw [m_is (h.mr hA), bd_s, q, if_neg (by decide), m_is (h.mr hA), bd_s, q2, if_neg (by decide), if_pos (by rw [hab])]
  have hne : ¬ nI a = nI b := nI_ne (by omega) (by omega) hab
  have cs : ∀ σ, CI A σ → ∃ w, Fr QC σ w ∧ f_CT_join (nI a) (nI b) σ = if nI (hd A.N a) = nI (hd A.N b) then some (-5, w) else bd (f_HI_record w) fun r15 σ16 => bd (f_ST_link (nI a) (nI b) σ16) fun r17 σ18 => bd (f_GR_find σ18) fun r19 σ20 => bd (f_GR_headOf (nI a) σ20) fun r21 σ22 => some (r21, σ22) := by
    intro σ h
    obtain ⟨w, w1, w2, w3, w4⟩ := g_find (h.qs hA)
    refine ⟨w, w2.mono (by decide), ?_⟩
    unfold f_CT_join
    rw [r_isIn (h.qs hA), bd_s, q, if_neg (by decide), r_isIn (h.qs hA), bd_s, q2, if_neg (by decide), if_neg hne, w1, bd_s, s_headN w3 a1, bd_s, s_headN w3 b1, bd_s, hdc_in a4, hdc_in b4]
  have ms : ∀ σ, RI A σ → ∃ w, (Fr QM σ w ∧ ∀ i, i ≠ 23 → w 112 i = σ 112 i) ∧ f_MO_join (nI a) (nI b) σ = if nI (hd A.N a) = nI (hd A.N b) then some (-5, w) else bd (f_MO_record w) fun r13 σ14 => lt' (up σ14 113 (49 + a) ((σ14 113 (49 + a)) ||| isl (nI 1) (nI b))) fun σ17 => lt' (up σ17 113 (49 + b) ((σ17 113 (49 + b)) ||| isl (nI 1) (nI a))) fun σ20 => bd (f_MO_heads σ20) fun r21 σ22 => some (σ22 117 a, σ22) := by
    intro σ h
    obtain ⟨w, w1, w2, w3, w4, w5, w6⟩ := m_headsQ hA h
    refine ⟨w, ⟨w2, w3⟩, ?_⟩
    unfold f_MO_join
    rw [m_is (h.mr hA), bd_s, q, if_neg (by decide), m_is (h.mr hA), bd_s, q2, if_neg (by decide), if_neg hne, w1, bd_s, inb_n a1 (by omega), gd_t, inb_n b1 (by omega), gd_t, nI_clamp (by omega), nI_clamp (by omega), w4 a a1, w4 b b1, hdm_in a4, hdm_in b4, nI_add, nI_add, nI_clamp (by omega), nI_clamp (by omega), inb_n (by omega) (by omega), inb_n (by omega) (by omega)]
    rfl
  by_cases qh : hd A.N a = hd A.N b
  · refine One.q hA (-5) (fun σ h => ?_) (fun σ h => ?_)
    · obtain ⟨w, w1, w2⟩ := cs σ h
      exact ⟨w, by rw [w2, if_pos (by rw [qh])], w1⟩
    · obtain ⟨w, w1, w2⟩ := ms σ h
      exact ⟨w, by rw [w2, if_pos (by rw [qh])], w1.1, w1.2⟩
  have qh2 : ¬ nI (hd A.N a) = nI (hd A.N b) := fun w => qh ((hd_ne (σ := fun _ _ => 0) a1 b1).mp w)
  have hN := inv_join hA.1 a1 b1 hab
  have e : ∀ i, i < 49 ∨ 69 ≤ i → jN A.N a b i = A.N i := fun i hi => jN_e A.N a1 b1 hi
  have ai : inn (jN A.N a b) a = true := by rw [inn_cg (N := A.N) (fun _ => e _ (by omega))]; exact a4
  refine One.chg3 hA _ (nI (hd (jN A.N a b) a)) hN (fun σ h => ?_) (fun σ h => ?_)
  · obtain ⟨w, w1, w2⟩ := cs σ h
    refine ⟨w, w1, fun y h1 h3 => ?_⟩
    have r := h3.1
    have rel : RelS (fun k => up (up y 8 (20 * a + b) (bI true)) 8 (20 * b + a) (bI true) k) (jN A.N a b) := by
      have u8 : ∀ k, k ≠ 8 → up (up y 8 (20 * a + b) (bI true)) 8 (20 * b + a) (bI true) k = y k := fun k hk => by rw [up_n _ _ _ hk, up_n _ _ _ hk]
      refine RelS.up (S := fun k => y k) r hA.1 (fun i hi => e i (by omega)) (fun k hk => u8 k (by omega)) (rs_1 r (fun c hc => e _ (by omega)) (u8 1 (by decide))) (fun x z hx hz => ?_) (rs_9 r (fun c hc => e _ (by omega)) (u8 9 (by decide))) (rs_10 r (fun c hc => e _ (by omega)) (u8 10 (by decide))) (rs_11 r (fun c hc => e _ (by omega)) (u8 11 (by decide))) (rs_12 r (fun c hc => e _ (by omega)) (u8 12 (by decide)))
      show up (up y 8 (20 * a + b) (bI true)) 8 (20 * b + a) (bI true) 8 (20 * x + z) = _
      rw [up_s, up_s, jN_lk hA.1 a1 b1 hab]
      by_cases p1 : x = b ∧ z = a
      · rw [p1.1, p1.2, upd_s, decide_eq_true rfl, decide_eq_true rfl, Bool.and_true, Bool.or_true]
      · rw [upd_n _ _ (by omega), show (decide (x = b) && decide (z = a)) = false by
          by_cases u : x = b
          · rw [decide_eq_false (p := z = a) (fun v => p1 ⟨u, v⟩), Bool.and_false]
          · rw [decide_eq_false u]; rfl, Bool.or_false]
        by_cases p2 : x = a ∧ z = b
        · rw [p2.1, p2.2, upd_s, decide_eq_true rfl, decide_eq_true rfl, Bool.and_true, Bool.or_true]
        · rw [upd_n _ _ (by omega), show (decide (x = a) && decide (z = b)) = false by
            by_cases u : x = a
            · rw [decide_eq_false (p := z = b) (fun v => p2 ⟨u, v⟩), Bool.and_false]
            · rw [decide_eq_false u]; rfl, Bool.or_false]
          exact r.2.2.2.2.2.2.2.2.1 x z hx hz
    obtain ⟨g, g1, g2, g3, g4⟩ := g_find (σ := up (up y 8 (20 * a + b) (bI true)) 8 (20 * b + a) (bI true)) ⟨trivial, hN, rel⟩
    refine ⟨_, g, rel, fun c hc => by rw [up_n _ _ _ (by omega), up_n _ _ _ (by omega)], fun _ => ⟨?_, g2.mono (by decide)⟩⟩
    unfold f_ST_link at w2
    rw [w2, if_neg qh2, h1, bd_s, show (nI 1 : Int32) = bI true from rfl, c_putLink a1 b1, bd_s, bd_s, g1, bd_s, s_headN g3 a1, bd_s, hdc_in ai]
  · obtain ⟨w, w1, w2⟩ := ms σ h
    refine ⟨w, w1, fun y h1 h3 => ?_⟩
    have ra : y 113 (49 + a) = nI (lm A.N a) := (h3.1 _ (by omega)).trans (hA.1.2.2.2.2.1 a a1).1
    have rb : y 113 (49 + b) = nI (lm A.N b) := (h3.1 _ (by omega)).trans (hA.1.2.2.2.2.1 b b1).1
    have mx : ∀ i, i < 1385 → up (up y 113 (49 + a) (nI (lm A.N a ||| 2 ^ b))) 113 (49 + b) (nI (lm A.N b ||| 2 ^ a)) 113 i = jN A.N a b i := by
      intro i hi
      unfold jN
      rw [up_s, up_s]
      by_cases z : i = 49 + b
      · rw [z, upd_s, upd_s]
      · rw [upd_n _ _ z, upd_n _ _ z]
        by_cases u : i = 49 + a
        · rw [u, upd_s, upd_s]
        · rw [upd_n _ _ u, upd_n _ _ u]; exact h3.1 i hi
    obtain ⟨z, z1, z2, z3, z4, z5⟩ := m_heads (σ := up (up y 113 (49 + a) (nI (lm A.N a ||| 2 ^ b))) 113 (49 + b) (nI (lm A.N b ||| 2 ^ a))) ⟨mx, hN⟩
    refine ⟨_, z, mx, fun c hc => by rw [up_n _ _ _ hc, up_n _ _ _ hc], ?_, z2.mono (by decide), z5.1⟩
    rw [w2, if_neg qh2, h1, bd_s, ra, isl_1 b1, nI_or, lt', up_s, upd_n _ _ (by omega), rb, isl_1 a1, nI_or, lt', z1, bd_s, z3 a a1, hdm_in ai])
end JOIN
