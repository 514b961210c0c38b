section PART
def pN (N : Rw) (a : Nat) : Rw := fun i => if 49 ≤ i ∧ i < 69 then (if i = 49 + a then nI 0 else nI (clr (vN (N i)) a)) else N i
theorem pN_e (N : Rw) (a : Nat) {i : Nat} (hi : i < 49 ∨ 69 ≤ i) : pN N a i = N i := if_neg (by omega)
theorem pN_l (N : Rw) (a : Nat) {x : Nat} (hx : x < 20) : pN N a (49 + x) = if x = a then nI 0 else nI (clr (lm N x) a) := by
  unfold pN
  rw [if_pos (by omega)]
  by_cases z : x = a
  · rw [if_pos z, if_pos (by omega)]
  · rw [if_neg z, if_neg (by omega)]; rfl
theorem pN_lk {N : Rw} (h : InvN N) {a x y : Nat} (hx : x < 20) (hy : y < 20) : lkd (pN N a) x y = (lkd N x y && !(decide (x = a)) && !(decide (y = a))) := by
  have lx := (h.2.2.2.2.1 x hx).2
  have cl := clr_le (lm N x) a
  have lx2 : lm N x < 1048576 := lx
  unfold lkd
  rw [pN_l N a hx]
  by_cases z : x = a
  · rw [if_pos z, vN_nI (by omega), Nat.zero_testBit, decide_eq_true z, Bool.not_true, Bool.and_false, Bool.false_and]
  · rw [if_neg z, vN_nI (by omega), clr_bit hy, decide_eq_false z, Bool.not_false, Bool.and_true]
    unfold lm
    congr 2
    exact decide_eq_decide.mpr ⟨fun w => w.symm, fun w => w.symm⟩
theorem inv_part {N : Rw} (h : InvN N) {a : Nat} : InvN (pN N a) := by
  have e : ∀ i, i < 49 ∨ 69 ≤ i → pN N a i = N i := fun i hi => pN_e N a hi
  have w := st_w h (N' := pN N a) (fun c hc => e _ (by omega))
  have s := st_s h (N' := pN N a) (fun c hc => e _ (by omega))
  refine InvN.up h (fun j hj => e j (by omega)) (st_in h (fun c hc => e _ (by omega))) (fun c hc => ?_) (fun x y hx hy => ?_) (fun x hx => ?_) w.1 w.2 (st_p h (fun c hc => e _ (by omega))) s.1 s.2 (st_z h (fun c hc => e _ (by omega)))
  · have lx : lm N c < 1048576 := (h.2.2.2.2.1 c hc).2
    have cl := clr_le (lm N c) a
    rw [pN_l N a hc]
    by_cases z : c = a
    · rw [if_pos z, vN_nI (by omega)]; exact ⟨rfl, by decide⟩
    · rw [if_neg z, vN_nI (by omega)]; exact ⟨rfl, by omega⟩
  · rw [pN_lk h hx hy, pN_lk h hy hx, h.2.2.2.2.2.1 x y hx hy]
    cases lkd N y x <;> cases decide (x = a) <;> cases decide (y = a) <;> rfl
  · rw [pN_lk h hx hx, h.2.2.2.2.2.2.1 x hx]; rfl
/-- links of the class, those with the first j captions cut -/
def LC (N : Rw) (a j : Nat) (x : Sg) : Prop := ∀ u v, u < 20 → v < 20 → x 8 (20 * u + v) = bI (lkd N u v && !(decide (u = a) && decide (v < j)) && !(decide (v = a) && decide (u < j)))
theorem c_cut {σ : Sg} {N : Rw} {a : Nat} (ha : a < 20) (h0 : LC N a 0 σ) : ∃ y, f_ST_cutLinks (nI a) σ = some (0, y) ∧ Fr [8] σ y ∧ LC N a 20 y := by
  unfold f_ST_cutLinks
  refine Exists.elim (lpI (fun n j (y : Sg) => f_ST_cutLinks_2 n (nI a) (nI j) y) 20 (fun j y => Fr [8] σ y ∧ LC N a j y) ?_ 0 FU σ (Nat.zero_le _) (by decide) ⟨Fr.rf _ _, h0⟩) ?_
  · intro n j y hj hI
    obtain ⟨hF, hL⟩ := hI
    show ∃ z, _ ∧ f_ST_cutLinks_2 (n + 1) (nI a) (nI j) y = _
    rw [f_ST_cutLinks_2, if_neg (nI_ge hj (by decide)), show (nI 0 : Int32) = bI false from rfl, c_putLink ha hj, bd_s, nI_add]
    refine ⟨_, ⟨(hF.up _ _ (by decide)).up _ _ (by decide), fun u v hu hv => ?_⟩, rfl⟩
    rw [up_s, up_s]
    by_cases p1 : u = j ∧ v = a
    · rw [p1.1, p1.2, upd_s, decide_eq_true (p := a = a) rfl, decide_eq_true (Nat.lt_succ_self j), Bool.and_self, Bool.not_true, Bool.and_false]
    · rw [upd_n _ _ (by omega)]
      by_cases p2 : u = a ∧ v = j
      · rw [p2.1, p2.2, upd_s, decide_eq_true (p := a = a) rfl, decide_eq_true (Nat.lt_succ_self j), Bool.true_and, Bool.not_true, Bool.and_false, Bool.false_and]
      · rw [upd_n _ _ (by omega), hL u v hu hv]
        have k1 : (decide (u = a) && decide (v < j + 1)) = (decide (u = a) && decide (v < j)) := by
          by_cases z : u = a
          · rw [show decide (v < j + 1) = decide (v < j) from decide_eq_decide.mpr ⟨fun w => by omega, fun w => by omega⟩]
          · rw [decide_eq_false z]; rfl
        have k2 : (decide (v = a) && decide (u < j + 1)) = (decide (v = a) && decide (u < j)) := by
          by_cases z : v = a
          · rw [show decide (u < j + 1) = decide (u < j) from decide_eq_decide.mpr ⟨fun w => by omega, fun w => by omega⟩]
          · rw [decide_eq_false z]; rfl
        rw [k1, k2]
  · rintro m ⟨y, ⟨hF, hL⟩, heq⟩
    refine ⟨y, heq.trans ?_, hF, hL⟩
    show f_ST_cutLinks_2 (m + 1) (nI a) (nI 20) y = _
    rw [f_ST_cutLinks_2, if_pos (Int32.le_refl _)]
theorem op_part (x1 : Int32) : Ok2 (f_CT_part x1) (f_MO_part x1) := Ok2.mk (fun A hA => by
  show One _ _ A
  cases q : inn A.N (plc 20 x1)
  · refine One.same hA (-1) (fun σ h => ?_) (fun σ h => ?_)
    · unfold f_CT_part; rw [r_isIn (h.qs hA), bd_s, q, bI_f, if_pos rfl]
    · unfold f_MO_part; rw [m_is (h.mr hA), bd_s, q, bI_f, if_pos rfl]
  obtain ⟨a, a1, a2, a3, a4⟩ := inn_arg hA.1 q
  subst a3
  have hl := hA.1.2.2.2.2.1 a a1
  have ms : ∀ σ, RI A σ → f_MO_part (nI a) σ = if nI (lm A.N a) = nI 0 then some (-5, σ) else bd (f_MO_record σ) fun r6 σ7 => lt' (up σ7 113 (49 + a) (nI 0)) fun σ9 => f_MO_part_41 FU (nI a) (nI 0) σ9 := by
    intro σ h
    unfold f_MO_part
    rw [m_is (h.mr hA), bd_s, q, if_neg (by decide), nI_add, inb_n (by omega) (by omega), gd_t, nI_clamp (by omega), h.1 _ (by omega), hl.1]
    rfl
  cases qh : hasL A.N a
  · have z0 : lm A.N a = 0 := by simpa [hasL, lm] using qh
    refine One.same hA (-5) (fun σ h => ?_) (fun σ h => ?_)
    · unfold f_CT_part; rw [r_isIn (h.qs hA), bd_s, q, if_neg (by decide), r_hasLinks (h.qs hA) a1, bd_s, qh, bI_f, if_pos rfl]
    · rw [ms σ h, if_pos (by rw [z0])]
  have z0 : lm A.N a ≠ 0 := by simpa [hasL, lm] using qh
  have hN := inv_part hA.1 (a := a)
  have e : ∀ i, i < 49 ∨ 69 ≤ i → pN A.N a i = A.N i := fun i hi => pN_e A.N a hi
  have ai : inn (pN A.N a) a = true := by rw [inn_cg (N := A.N) (fun _ => e _ (by omega))]; exact a4
  refine One.chg2 hA _ (nI (hd (pN A.N a) a)) hN (fun σ y h h1 h2 h3 => ?_) (fun σ y h h1 h2 h3 => ?_)
  · have r := h3.1
    obtain ⟨x, x1, x2, x3⟩ := c_cut (σ := y) (N := A.N) a1 (fun u v hu hv => by
      rw [decide_eq_false (Nat.not_lt_zero v), decide_eq_false (Nat.not_lt_zero u), Bool.and_false, Bool.and_false, Bool.not_false, Bool.and_true, Bool.and_true]
      exact r.2.2.2.2.2.2.2.2.1 u v hu hv)
    have rel : RelS (fun k => x k) (pN A.N a) := by
      have u8 : ∀ k, k ≠ 8 → x k = y k := fun k hk => x2 k (by simp; exact hk)
      refine RelS.up (S := fun k => y k) r hA.1 (fun i hi => e i (by omega)) (fun k hk => u8 k (by omega)) (rs_1 r (fun c hc => e _ (by omega)) (u8 1 (by decide))) (fun u v hu hv => ?_) (rs_9 r (fun c hc => e _ (by omega)) (u8 9 (by decide))) (rs_10 r (fun c hc => e _ (by omega)) (u8 10 (by decide))) (rs_11 r (fun c hc => e _ (by omega)) (u8 11 (by decide))) (rs_12 r (fun c hc => e _ (by omega)) (u8 12 (by decide)))
      show x 8 (20 * u + v) = _
      rw [x3 u v hu hv, pN_lk hA.1 hu hv, decide_eq_true hu, decide_eq_true hv, Bool.and_true, Bool.and_true]
    obtain ⟨g, g1, g2, g3, g4⟩ := g_find (σ := x) ⟨trivial, hN, rel⟩
    refine ⟨x, g, rel, fun c hc => x2 c (by simp; omega), fun _ => ⟨?_, g2.mono (by decide)⟩⟩
    unfold f_CT_part
    rw [r_isIn (h.qs hA), bd_s, q, if_neg (by decide), r_hasLinks (h.qs hA) a1, bd_s, qh, if_neg (by decide), h1, bd_s, x1, bd_s, g1, bd_s, s_headN g3 a1, bd_s, hdc_in ai]
  · rw [ms σ h, if_neg (nI_ne (by have : lm A.N a < 1048576 := hl.2; omega) (by decide) z0), h1, bd_s, lt']
    refine Exists.elim (lpI (fun n j (z : Sg) => f_MO_part_41 n (nI a) (nI j) z) 20 (fun j z => Fr [113] y z ∧ ∀ i, i < 1385 → z 113 i = if i < 49 + j then pN A.N a i else if i = 49 + a then nI 0 else A.N i) ?_ 0 FU (up y 113 (49 + a) (nI 0)) (Nat.zero_le _) (by decide) ⟨(Fr.rf _ _).up _ _ (by decide), fun i hi => ?_⟩) ?_
    · intro n j z hj hI
      obtain ⟨hF, hL⟩ := hI
      have hlj := hA.1.2.2.2.2.1 j hj
      have cj := clr_le (lm A.N j) a
      show ∃ z', _ ∧ f_MO_part_41 (n + 1) (nI a) (nI j) z = _
      rw [f_MO_part_41, if_neg (nI_ge hj (by decide)), nI_add, inb_n (by omega) (by omega), gd_t, gd_t, nI_clamp (by omega), hL _ (by omega), if_neg (by omega), nI_add]
      have ev : ((if 49 + j = 49 + a then nI 0 else A.N (49 + j)) &&& (isl (nI 1) (nI a) ^^^ (-1))) = pN A.N a (49 + j) := by
        rw [pN_l A.N a hj]
        by_cases w : j = a
        · rw [if_pos w, if_pos (by rw [w]), and_clr a1]
          have := clr_le 0 a
          rw [show clr 0 a = 0 by omega]
        · rw [if_neg w, if_neg (by omega), hlj.1, and_clr a1]
          rfl
      rw [ev, lt']
      refine ⟨_, ⟨hF.up _ _ (by decide), fun i hi => ?_⟩, rfl⟩
      rw [up_s]
      by_cases w : i = 49 + j
      · rw [w, upd_s, if_pos (by omega)]
      · rw [upd_n _ _ w, hL i hi]
        by_cases u : i < 49 + j
        · rw [if_pos u, if_pos (by omega)]
        · rw [if_neg u, if_neg (show ¬ i < 49 + (j + 1) by omega)]
    · rw [up_s]
      by_cases w : i = 49 + a
      · rw [w, upd_s, if_neg (by omega), if_pos rfl]
      · rw [upd_n _ _ w]
        by_cases u : i < 49 + 0
        · rw [if_pos u, e _ (by omega)]; exact h3.1 i hi
        · rw [if_neg u, if_neg w]; exact h3.1 i hi
    · rintro m ⟨x, ⟨hF, hL⟩, heq⟩
      have mx : ∀ i, i < 1385 → x 113 i = pN A.N a i := by
        intro i hi
        rw [hL i hi]
        by_cases u : i < 49 + 20
        · rw [if_pos u]
        · rw [if_neg u, if_neg (by omega), e _ (by omega)]
      obtain ⟨z, z1, z2, z3, z4, z5⟩ := m_heads (σ := x) ⟨mx, hN⟩
      refine ⟨x, z, mx, fun c hc => hF c (by simp; exact hc), heq.trans ?_, z2.mono (by decide), z5.1⟩
      show f_MO_part_41 (m + 1) (nI a) (nI 20) x = _
      rw [f_MO_part_41, if_pos (Int32.le_refl _), z1, bd_s, inb_n a1 (by omega), gd_t, nI_clamp (by omega), z3 a a1, hdm_in ai])
end PART
