/-! the reference's order -/
theorem ahd_iff (N : Rw) (x k : Nat) : ahd N x k = true ↔ kz N k < kz N x := by simp [ahd]
theorem ahd_t {N : Rw} {x k : Nat} (h : kz N k < kz N x) : ahd N x k = true := decide_eq_true h
theorem ahd_f {N : Rw} {x k : Nat} (h : ¬ kz N k < kz N x) : ahd N x k = false := decide_eq_false h
section MOR
variable {σ : Sg} {N : Rw}
theorem m_tallyOf (ht : TM N σ) {k : Nat} (hk : isHd N k = true) : f_MO_tally (nI k) σ = some (zI (sc N k), σ) := by
  have hk20 := hd_lt20 hk
  obtain ⟨h1, -, h3⟩ := ht.2.2.2.2 k hk20
  unfold f_MO_tally
  rw [inb_n hk20 (by omega), gd_t, gd_t, nI_clamp (by omega), h1, h3, if_pos hk, nI_mul, nI_z, nI_z, zI_sub]
  unfold sc
  rw [show ((10 * pts N k : Nat) : Int) = 10 * (pts N k : Int) by omega]
theorem m_ah74 {z : Int} (h1 : -1000000000 ≤ z) (h2 : z ≤ 1000000000) : f_MO_isAhead_74 (zI z) σ = some (bI (decide (0 < z)), σ) := by
  unfold f_MO_isAhead_74
  rw [show (nI 0 : Int32) = zI 0 from rfl]
  by_cases q : z ≤ 0
  · rw [if_pos ((zI_le h1 h2 (by decide) (by decide)).mpr q), decide_eq_false (by omega)]; rfl
  · rw [if_neg (fun w => q ((zI_le h1 h2 (by decide) (by decide)).mp w)), decide_eq_true (by omega)]; rfl
theorem m_ah119 {x k : Nat} (hx : x < 20) (hk : k < 20) {z : Int} (h1 : -1000000000 ≤ z) (h2 : z ≤ 1000000000) : f_MO_isAhead_119 (nI x) (nI k) (zI z) σ = some (bI (decide (0 < z) || (decide (z = 0) && decide (x < k))), σ) := by
  unfold f_MO_isAhead_119
  rw [show (nI 0 : Int32) = zI 0 from rfl]
  by_cases q : 0 < z
  · rw [if_pos ((zI_lt (by decide) (by decide) h1 h2).mpr q), decide_eq_true q]; rfl
  · rw [if_neg (fun w => q ((zI_lt (by decide) (by decide) h1 h2).mp w)), decide_eq_false q]
    by_cases q2 : z = 0
    · rw [q2, if_pos rfl, decide_eq_true rfl]
      by_cases q3 : x < k
      · rw [if_neg (nI_ge q3 (by omega)), decide_eq_true q3]; rfl
      · rw [if_pos ((nI_leI (by omega) (by omega)).mpr (by omega)), decide_eq_false q3]; rfl
    · rw [if_neg (fun w => q2 ((zI_eq h1 h2 (by decide) (by decide)).mp w)), decide_eq_false q2]; rfl
theorem m_isAhead (h : MR σ N) (ht : TM N σ) (hg : OM N (os N (ng N - 1)) σ) {x k : Nat} (hx : isHd N x = true) (hk : isHd N k = true) : f_MO_isAhead (nI x) (nI k) σ = some (bI (ahd N x k), σ) := by
  have hx20 := hd_lt20 hx
  have hk20 := hd_lt20 hk
  have hst := h.2.2.2.2.2.2.2.2.2.2.2.2.1
  have h1 : N 1 = nI (stt N 0) := h.2.2.2.2.2.2.2.2.2.2.2.1 0 (by decide)
  have h3 : N 3 = nI (stt N 2) := h.2.2.2.2.2.2.2.2.2.2.2.1 2 (by decide)
  have gx : σ 121 x = mI (fin' N x) := (hg x hx20).2
  have gk : σ 121 k = mI (fin' N k) := (hg k hk20).2
  have fx := fin_le N x
  have fk := fin_le N k
  have bx := sc_b N x
  have bk := sc_b N k
  have rx := sr_60 N hx20
  have rk' := sr_60 N hk20
  have ffx := frs_le N x
  have ffk := frs_le N k
  unfold f_MO_isAhead
  rw [inb_n (by decide) (by decide), gd_t, nI_clamp (by decide), h.1 _ (by decide), h1]
  by_cases q : stt N 0 = 1
  · have kx : kz N x = if fin' N x = 0 then 20 else (fin' N x : Int) - 1 := if_pos q
    have kk : kz N k = if fin' N k = 0 then 20 else (fin' N k : Int) - 1 := if_pos q
    rw [if_pos (by rw [q]), inb_n hk20 (by omega), gd_t, inb_n hx20 (by omega), gd_t, nI_clamp (by omega), nI_clamp (by omega), gx, gk, gd_t, gd_t]
    by_cases q1 : fin' N k = 0
    · rw [if_pos ((mI_neg (by omega)).mpr q1), ahd_f (by rw [kx, kk, if_pos q1]; by_cases q2 : fin' N x = 0; rw [if_pos q2]; omega; rw [if_neg q2]; omega)]
      rfl
    · rw [if_neg (fun w => q1 ((mI_neg (by omega)).mp w))]
      rw [if_neg q1] at kk
      by_cases q2 : fin' N x = 0
      · rw [if_pos ((mI_neg (by omega)).mpr q2), ahd_t (by rw [kx, kk, if_pos q2]; omega)]
        rfl
      · rw [if_neg q2] at kx
        rw [if_neg (fun w => q2 ((mI_neg (by omega)).mp w)), mI_s q1, mI_s q2]
        by_cases q4 : fin' N x - 1 ≤ fin' N k - 1
        · rw [if_pos ((nI_leI (by omega) (by omega)).mpr q4), ahd_f (by omega)]; rfl
        · rw [if_neg (fun w => q4 ((nI_leI (by omega) (by omega)).mp w)), ahd_t (by omega)]; rfl
  · rw [if_neg (fun z => q ((nI_eq (by omega) (by decide)).mp z)), m_tallyOf ht hx, bd_s, m_tallyOf ht hk, bd_s, zI_sub, lt']
    by_cases q1 : sc N x - sc N k = 0
    · rw [if_pos (by rw [q1]; rfl), inb_n (by decide) (by decide), gd_t, nI_clamp (by decide), h.1 _ (by decide), h3]
      by_cases q2 : stt N 2 = 0
      · have kx : kz N x = sc N x := by unfold kz; rw [if_neg q, if_pos q2]
        have kk : kz N k = sc N k := by unfold kz; rw [if_neg q, if_pos q2]
        rw [if_pos (by rw [q2]), m_ah74 (by omega) (by omega), ahd_f (by omega), decide_eq_false (by omega)]
      · have kx : kz N x = (((sc N x * 13 + (frs N x : Int)) * 61 + 60) - (sr N x : Int)) * 20 + 20 - 1 - (x : Int) := by unfold kz; rw [if_neg q, if_neg q2]
        have kk : kz N k = (((sc N k * 13 + (frs N k : Int)) * 61 + 60) - (sr N k : Int)) * 20 + 20 - 1 - (k : Int) := by unfold kz; rw [if_neg q, if_neg q2]
        obtain ⟨-, x2, x3⟩ := ht.2.2.2.2 x hx20
        obtain ⟨-, k2, k3⟩ := ht.2.2.2.2 k hk20
        rw [if_neg (fun z => q2 ((nI_eq (by omega) (by decide)).mp z)), inb_n hx20 (by omega), gd_t, inb_n hk20 (by omega), gd_t, nI_clamp (by omega), nI_clamp (by omega), x2, k2, gd_t, gd_t, x3, k3, if_pos hx, if_pos hk, nI_z (frs N x), nI_z (frs N k), zI_sub, lt', nI_z (sr N x), nI_z (sr N k), zI_sub]
        by_cases q3 : (frs N x : Int) - (frs N k : Int) = 0
        · rw [if_pos (by rw [q3]; rfl), m_ah119 hx20 hk20 (by omega) (by omega)]
          by_cases q4 : (0 : Int) < (sr N k : Int) - (sr N x : Int)
          · rw [decide_eq_true q4, ahd_t (by omega)]; rfl
          · rw [decide_eq_false q4]
            by_cases q5 : (sr N k : Int) - (sr N x : Int) = 0
            · rw [decide_eq_true q5]
              by_cases q6 : x < k
              · rw [decide_eq_true q6, ahd_t (by omega)]; rfl
              · rw [decide_eq_false q6, ahd_f (by omega)]; rfl
            · rw [decide_eq_false q5, ahd_f (by omega)]; rfl
        · rw [if_neg (fun (w : zI ((frs N x : Int) - (frs N k : Int)) = nI 0) => q3 ((zI_eq (by omega) (by omega) (by decide) (by decide)).mp (w.trans (show nI 0 = zI 0 from rfl)))), m_ah119 hx20 hk20 (by omega) (by omega), decide_eq_false (p := (frs N x : Int) - (frs N k : Int) = 0) q3]
          by_cases q4 : (0 : Int) < (frs N x : Int) - (frs N k : Int)
          · rw [decide_eq_true q4, ahd_t (by omega)]; rfl
          · rw [decide_eq_false q4, ahd_f (by omega)]; rfl
    · rw [if_neg (fun (w : zI (sc N x - sc N k) = nI 0) => q1 ((zI_eq (by omega) (by omega) (by decide) (by decide)).mp (w.trans (show nI 0 = zI 0 from rfl)))), m_ah74 (by omega) (by omega)]
      congr 3
      unfold ahd
      congr 1
      unfold kz
      rw [if_neg q, if_neg q]
      by_cases q2 : stt N 2 = 0
      · rw [if_pos q2, if_pos q2]
        exact propext ⟨fun w => by omega, fun w => by omega⟩
      · rw [if_neg q2, if_neg q2]
        exact propext ⟨fun w => by omega, fun w => by omega⟩
theorem tm_fr {x : Sg} {L : List Nat} (ht : TM N σ) (hF : Fr L σ x) (hL : L.all (fun c => !(c == 112) && !(c == 117) && !(c == 118) && !(c == 119) && !(c == 120) && !(c == 128) && !(c == 129) && !(c == 130)) = true) : TM N x := by
  have e : ∀ c, c = 112 ∨ c = 117 ∨ c = 118 ∨ c = 119 ∨ c = 120 ∨ c = 128 ∨ c = 129 ∨ c = 130 → x c = σ c := by
    intro c hc
    refine hF c (fun q => ?_)
    have := List.all_eq_true.mp hL c q
    simp at this
    omega
  refine ⟨fun c hc => by rw [e 117 (by omega)]; exact ht.1 c hc, by rw [e 112 (by omega)]; exact ht.2.1, ⟨fun c hc => by rw [e 130 (by omega)]; exact ht.2.2.1.1 c hc, fun c j hc hj => by rw [e 129 (by omega)]; exact ht.2.2.1.2 c j hc hj⟩, fun c hc => by rw [e 128 (by omega)]; exact ht.2.2.2.1 c hc, fun g hg => by rw [e 118 (by omega), e 119 (by omega), e 120 (by omega)]; exact ht.2.2.2.2 g hg⟩
theorem m_orders (h : MR σ N) (ht : TM N σ) (hg : GAll N σ) : ∃ y, f_MO_orders σ = some (0, y) ∧ Fr [125, 126, 127] σ y ∧ (∀ k, isHd N k = true → y 125 k = nI (pla N k) ∧ y 126 (idx N k) = nI k) ∧ ∀ k, k < 20 → y 127 k = nI 0 := by
  have hE := h.2.1.2
  have hng := ng_le N
  unfold f_MO_orders
  refine Exists.elim (lpI (fun n k (x : Sg) => f_MO_orders_2 n (nI k) x) 20 (fun k x => Fr [125, 127] σ x ∧ ∀ j, j < k → x 127 j = nI 0) ?_ 0 FU σ (Nat.zero_le _) (by decide) ⟨Fr.rf _ _, fun j hj => absurd hj (Nat.not_lt_zero _)⟩) ?_
  · intro n k x hk hJ
    obtain ⟨hF, h1⟩ := hJ
    show ∃ y, _ ∧ f_MO_orders_2 (n + 1) (nI k) x = _
    rw [f_MO_orders_2, if_neg (nI_ge hk (by decide)), inb_n hk (by omega), gd_t, lt', gd_t, lt', nI_clamp (by omega), nI_add]
    refine ⟨_, ⟨(hF.up _ _ (by decide)).up _ _ (by decide), fun j hj => ?_⟩, rfl⟩
    rw [up_s]
    by_cases z : j = k
    · rw [z, upd_s]
    · rw [upd_n _ _ z, up_n _ _ _ (by decide)]; exact h1 j (by omega)
  rintro m ⟨x0, ⟨hF0, h0⟩, heq⟩
  have hq : f_MO_orders_2 (m + 1) (nI 20) x0 = f_MO_orders_30 FU (nI 0) x0 := by rw [f_MO_orders_2, if_pos (Int32.le_refl _)]
  have heq := heq.trans hq
  refine Exists.elim (lpI (fun n k (x : Sg) => f_MO_orders_30 n (nI k) x) (ev N) (fun k x => Fr [125, 126, 127] σ x ∧ (∀ j, j < k → isHd N j = true → x 125 j = nI (pla N j) ∧ x 126 (idx N j) = nI j) ∧ ∀ j, j < 20 → x 127 j = nI 0) ?_ 0 FU x0 (Nat.zero_le _) (by unfold FU; omega) ⟨hF0.mono (by decide), fun j hj => absurd hj (Nat.not_lt_zero _), h0⟩) ?_
  · intro n k x hk hJ
    obtain ⟨hF, h1, h2⟩ := hJ
    have hmr := h.fr hF (by decide)
    have htx := tm_fr ht hF (by decide)
    have hgx : OM N (os N (ng N - 1)) x := fun k hk => by rw [hF 121 (by decide)]; exact hg.2 k hk
    show ∃ y, _ ∧ f_MO_orders_30 (n + 1) (nI k) x = _
    rw [f_MO_orders_30, inb_n (by decide) (by decide), gd_t, nI_clamp (by decide), m_ev hmr, if_neg (nI_ge hk (by omega)), m_isHead htx.1 (by omega), bd_s, nI_add]
    cases q : isHd N k
    · rw [if_pos (by decide)]
      exact ⟨x, ⟨hF, fun j hj hj2 => h1 j (by by_cases z : j = k; rw [z, q] at hj2; cases hj2; omega) hj2, h2⟩, rfl⟩
    · rw [if_neg (by decide)]
      refine Exists.elim (lpI (fun n2 i (y : Nat × Nat) => f_MO_orders_55 (fun x1 σ => f_MO_orders_30 n x1 σ) n2 (nI k) (nI y.1) (nI y.2) (nI i) x) (ev N) (fun i y => y.1 = cnt (fun z => isHd N z && ahd N z k) i ∧ y.2 = cnt (fun z => isHd N z && bef N z k) i) ?_ 0 FU (0, 0) (Nat.zero_le _) (by unfold FU; omega) ⟨rfl, rfl⟩) ?_
      · intro n2 i y hi hI
        obtain ⟨a, b⟩ := y
        obtain ⟨i1, i2⟩ := hI
        dsimp only at i1 i2
        show ∃ z, _ ∧ f_MO_orders_55 _ (n2 + 1) (nI k) (nI a) (nI b) (nI i) x = _
        rw [f_MO_orders_55, inb_n (by decide) (by decide), gd_t, nI_clamp (by decide), m_ev hmr, if_neg (nI_ge hi (by omega)), m_isHead htx.1 (by omega), bd_s, nI_add]
        cases q2 : isHd N i
        · rw [if_pos (by decide)]
          refine ⟨(a, b), ⟨?_, ?_⟩, rfl⟩
          · rw [cnt_s, q2, i1]; rfl
          · rw [cnt_s, q2, i2]; rfl
        · rw [if_neg (by decide)]
          by_cases e : i = k
          · rw [if_pos (by rw [e])]
            have p1 : ahd N i k = false := by rw [e]; exact ahd_f (Int.lt_irrefl _)
            have p2 : bef N i k = false := by rw [e]; simp [bef]
            refine ⟨(a, b), ⟨?_, ?_⟩, rfl⟩
            · rw [cnt_s, p1, Bool.and_false, i1]; rfl
            · rw [cnt_s, p2, Bool.and_false, i2]; rfl
          · rw [if_neg (fun w => e ((nI_eq (by omega) (by omega)).mp w)), m_isAhead hmr htx hgx q2 q, bd_s]
            have tail : ∀ t, t = b2n (ahd N i k) → ∃ z : Nat × Nat, (z.1 = cnt (fun z => isHd N z && ahd N z k) (i + 1) ∧ z.2 = cnt (fun z => isHd N z && bef N z k) (i + 1)) ∧ f_MO_orders_97 (fun x1 x2 x3 x4 σ => f_MO_orders_55 (fun x1 σ => f_MO_orders_30 n x1 σ) n2 x1 x2 x3 x4 σ) (nI k) (nI b) (nI i) (nI t) (nI a) x = f_MO_orders_55 (fun x1 σ => f_MO_orders_30 n x1 σ) n2 (nI k) (nI z.1) (nI z.2) (nI (i + 1)) x := by
              intro t htt
              unfold f_MO_orders_97
              rw [nI_add, lt', m_isAhead hmr htx hgx q2 q, bd_s]
              have c1 : a + t = cnt (fun z => isHd N z && ahd N z k) (i + 1) := by rw [cnt_s, q2, Bool.true_and, i1, htt]
              have done : ∀ u, u = b2n (bef N i k) → b + u = cnt (fun z => isHd N z && bef N z k) (i + 1) := by
                intro u hu
                rw [cnt_s, q2, Bool.true_and, i2, hu]
              cases w : ahd N i k
              · rw [if_pos (by decide), m_isAhead hmr htx hgx q q2, bd_s]
                have w1 : ¬ kz N k < kz N i := fun z => by rw [ahd_t z] at w; cases w
                cases w2 : ahd N k i
                · have w3 : ¬ kz N i < kz N k := fun z => by rw [ahd_t z] at w2; cases w2
                  rw [if_pos (by decide)]
                  by_cases e2 : k ≤ i
                  · rw [if_pos ((nI_leI (by omega) (by omega)).mpr e2), nI_add, lt', nI_add]
                    refine ⟨(a + t, b + 0), ⟨c1, done 0 ?_⟩, rfl⟩
                    rw [show bef N i k = false by
                      cases z : bef N i k
                      · rfl
                      · have := (bef_iff N i k).mp z; omega]
                    rfl
                  · rw [if_neg (fun z => e2 ((nI_leI (by omega) (by omega)).mp z)), nI_add, lt', nI_add]
                    refine ⟨(a + t, b + 1), ⟨c1, done 1 ?_⟩, rfl⟩
                    rw [(bef_iff N i k).mpr (Or.inr ⟨by omega, by omega⟩)]
                    rfl
                · have w3 := (ahd_iff N k i).mp w2
                  rw [if_neg (by decide), nI_add, lt', nI_add]
                  refine ⟨(a + t, b + 0), ⟨c1, done 0 ?_⟩, rfl⟩
                  rw [show bef N i k = false by
                    cases z : bef N i k
                    · rfl
                    · have := (bef_iff N i k).mp z; omega]
                  rfl
              · rw [if_neg (by decide), nI_add, lt', nI_add]
                refine ⟨(a + t, b + 1), ⟨c1, done 1 ?_⟩, rfl⟩
                rw [(bef_iff N i k).mpr (Or.inl ((ahd_iff N i k).mp w))]
                rfl
            cases w : ahd N i k
            · rw [if_pos (by decide)]
              exact tail 0 (by rw [w]; rfl)
            · rw [if_neg (by decide)]
              exact tail 1 (by rw [w]; rfl)
      · rintro m2 ⟨y, ⟨y1, y2⟩, heq2⟩
        have hev : ∀ p : Nat → Bool, cnt (fun z => isHd N z && p z) (ev N) = cnt (fun z => isHd N z && p z) 20 := fun p => (sm_out hE (fun i h1 h2 => by
          cases w : isHd N i
          · show b2n (isHd N i && p i) = 0
            rw [w]; rfl
          · have := (h.2.in_lt ((isHd_iff N i).mp w).1).2; omega)).symm
        rw [hev] at y1 y2
        have hix := idx_ng q
        have y2' : y.2 = idx N k := by rw [y2, idx_bef N (by omega)]
        have y1' : y.1 = ahc N k := y1
        refine ⟨up (up x 125 k (nI (pla N k))) 126 (idx N k) (nI k), ⟨(hF.up _ _ (by decide)).up _ _ (by decide), fun j hj hj2 => ?_, fun j hj => by rw [up_n _ _ _ (by decide), up_n _ _ _ (by decide)]; exact h2 j hj⟩, heq2.trans ?_⟩
        · rw [up_n _ _ _ (by decide), up_s, up_s, up_n _ _ _ (by decide)]
          by_cases z : j = k
          · rw [z, upd_s, upd_s]; exact ⟨rfl, rfl⟩
          · have hne : idx N j ≠ idx N k := fun w => z (idx_inj (by omega) (by omega) hj2 q w)
            rw [upd_n _ _ z, upd_n _ _ hne]
            exact h1 j (by omega) hj2
        · show f_MO_orders_55 _ (m2 + 1) (nI k) (nI y.1) (nI y.2) (nI (ev N)) x = _
          rw [f_MO_orders_55, inb_n (by decide) (by decide), gd_t, nI_clamp (by decide), m_ev hmr, if_pos (Int32.le_refl _), inb_n (by omega) (by omega), gd_t, nI_clamp (by omega), nI_add, lt', y2', inb_n (by omega) (by omega), gd_t, nI_clamp (by omega), lt', nI_add, y1']
          rfl
  · rintro m2 ⟨x, ⟨hF, h1, h2⟩, heq2⟩
    have hmr := h.fr hF (by decide)
    refine ⟨x, heq.trans (heq2.trans ?_), hF, fun k hk => h1 k (h.2.in_lt ((isHd_iff N k).mp hk).1).2 hk, h2⟩
    show f_MO_orders_30 (m2 + 1) (nI (ev N)) x = _
    rw [f_MO_orders_30, inb_n (by decide) (by decide), gd_t, nI_clamp (by decide), m_ev hmr, if_pos (Int32.le_refl _)]
end MOR
