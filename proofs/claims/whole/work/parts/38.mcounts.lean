def mI (n : Nat) : Int32 := if n = 0 then -1 else nI (n - 1)
theorem mI_sub (n : Nat) : nI n - nI 1 = mI n := by
  unfold mI
  by_cases q : n = 0
  · rw [if_pos q, q]; decide
  · rw [if_neg q, pk_sub (by omega)]
theorem mI_s {n : Nat} (h : n ≠ 0) : mI n = nI (n - 1) := if_neg h
theorem wI_s {n : Nat} (h : n ≠ 0) : wI n = nI (n - 1) := if_neg h
def inx (N : Rw) (x : Nat) : Bool := !(decide (x = 0)) && inn N (x - 1)
section CN2
variable {σ : Sg} {N : Rw}
/-- the class's counted ballots, all -/
def CAll (N : Rw) (x : Sg) : Prop := (∀ c, c < 36 → x 86 c = wI (fc N c)) ∧ ∀ g, g < 20 → x 87 g = nI (pts N g) ∧ x 88 g = nI (frs N g)
theorem s_coFill (h : QS σ N) (hc : HC σ N) : ∃ x, f_CO_fill σ = some (0, x) ∧ Fr [86, 87, 88] σ x ∧ CAll N x := by
  unfold f_CO_fill
  rw [s_fill _ _ _ _ (by decide), bd_s, s_fill _ _ _ _ (by decide), bd_s, s_fill _ _ _ _ (by decide), bd_s]
  generalize hx0 : upc (upc (upc σ 86 (fun j => if j < 36 then -5 else σ 86 j)) 87 (fun j => if j < 20 then nI 0 else upc σ 86 (fun j => if j < 36 then -5 else σ 86 j) 87 j)) 88 (fun j => if j < 20 then nI 0 else upc (upc σ 86 (fun j => if j < 36 then -5 else σ 86 j)) 87 (fun j => if j < 20 then nI 0 else upc σ 86 (fun j => if j < 36 then -5 else σ 86 j) 87 j) 88 j) = x0
  have hF0 : Fr [86, 87, 88] σ x0 := by rw [← hx0]; exact (((Fr.rf _ _).upc _ (by decide)).upc _ (by decide)).upc _ (by decide)
  have h86 : ∀ j, j < 36 → x0 86 j = -5 := fun j hj => by rw [← hx0, upc_n _ _ (by decide), upc_n _ _ (by decide), upc_s, if_pos hj]
  have h87 : ∀ j, j < 20 → x0 87 j = nI 0 := fun j hj => by rw [← hx0, upc_n _ _ (by decide), upc_s, if_pos hj]
  have h88 : ∀ j, j < 20 → x0 88 j = nI 0 := fun j hj => by rw [← hx0, upc_s, if_pos hj]
  refine Exists.elim (lpI (fun n v (x : Sg) => f_CO_fill_27 n (nI v) x) 12
    (fun v x => Fr [86, 87, 88] σ x ∧ (∀ c, c < 3 * v → x 86 c = wI (fc N c)) ∧ (∀ c, 3 * v ≤ c → c < 36 → x 86 c = -5) ∧ CT1 N (3 * v) x) ?_ 0 FU x0 (Nat.zero_le _) (by decide) ⟨hF0, fun c hc => absurd hc (Nat.not_lt_zero _), fun c _ hc2 => h86 c hc2, fun g hg => ⟨h87 g hg, h88 g hg⟩⟩) ?_
  · intro n v x hv hJ
    obtain ⟨hF, h1, h2, h3⟩ := hJ
    show ∃ y, _ ∧ f_CO_fill_27 (n + 1) (nI v) x = _
    rw [f_CO_fill_27, if_neg (nI_ge hv (by decide))]
    obtain ⟨y, k1, k2, k3, k4, k5⟩ := s_fillBallot (h.fr hF (by decide)) (hc.fr hF (by decide)) hv (fun k hk => h2 _ (by omega) (by omega)) h3
    rw [k1, bd_s, nI_add]
    refine ⟨y, ⟨hF.tr k2, fun c hc => ?_, fun c hc hc2 => ?_, k5⟩, rfl⟩
    · rcases Nat.lt_or_ge c (3 * v) with z | z
      · rw [k4 c (Or.inl z)]; exact h1 c z
      · rw [show c = 3 * v + (c - 3 * v) by omega]
        exact k3 _ (by omega)
    · rw [k4 c (Or.inr (by omega))]; exact h2 c (by omega) hc2
  · rintro m ⟨x, ⟨hF, h1, h2, h3⟩, heq⟩
    refine ⟨x, heq.trans ?_, hF, fun c hc => h1 c (by omega), fun g hg => h3 g hg⟩
    show f_CO_fill_27 (m + 1) (nI 12) x = _
    rw [f_CO_fill_27, if_pos (Int32.le_refl _)]
theorem m_isM (h : MR σ N) {x : Nat} (hx : x ≤ 20) : f_MO_is (mI x) σ = some (bI (inx N x), σ) := by
  unfold inx
  by_cases q : x = 0
  · rw [q, m_is h, show plc 20 (mI 0) = 20 by decide, inn_20 N (Nat.le_refl _)]
    rfl
  · rw [mI_s q, m_isN h (by omega), decide_eq_false q]
    rfl
theorem hdm_in {c : Nat} (h : inn N c = true) : hdm N c = nI (hd N c) := if_pos h
theorem hdm_out {c : Nat} (h : inn N c = false) : hdm N c = -1 := if_neg (by rw [h]; decide)
theorem m_count57 (hm : HM σ N) (hE : ev N ≤ 20) (K : Int32 → Int32 → Int32 → Sg → Option (Int32 × Sg)) {v w : Nat} (hv : v < 12) (hw3 : w < 3) (hx : wsc N (3 * v + w) ≤ 20) (hw20 : ∀ i, i < 36 → wsc N i ≤ 20) (hR : ∀ k, k < fil N v w → σ 128 (3 * v + k) = mI (cbd N v w k)) :
    f_MO_counts_57 K FU (nI v) (nI (fil N v w)) (nI w) (mI (wsc N (3 * v + w))) (bI (inx N (wsc N (3 * v + w)))) (nI 0) σ = f_MO_counts_107 K (nI v) (nI (fil N v w)) (nI w) (mI (wsc N (3 * v + w))) (bI (okv N v w)) σ := by
  have hfl := fil_le N v w
  obtain ⟨b1, b2⟩ := cbd_in N v w
  refine lpE (fun n i (g : Bool) => f_MO_counts_57 K n (nI v) (nI (fil N v w)) (nI w) (mI (wsc N (3 * v + w))) (bI g) (nI i) σ) (fil N v w)
    (fun i g => (g = true → inx N (wsc N (3 * v + w)) = true ∧ ∀ k, k < i → hd N (cbd N v w k - 1) ≠ hd N (wsc N (3 * v + w) - 1)) ∧ (g = false → okv N v w = false)) (fun r => r = f_MO_counts_107 K (nI v) (nI (fil N v w)) (nI w) (mI (wsc N (3 * v + w))) (bI (okv N v w)) σ) ?_ ?_ (fil N v w) 0 FU (inx N (wsc N (3 * v + w))) (Nat.zero_add _) (by unfold FU; omega) ⟨fun q => ⟨q, fun k hk => absurd hk (Nat.not_lt_zero _)⟩, fun q => ?_⟩
  · intro n i g hi hI
    show f_MO_counts_57 K (n + 1) (nI v) (nI (fil N v w)) (nI w) _ (bI g) (nI i) σ = _ ∨ _
    rw [f_MO_counts_57, if_neg (nI_ge hi (by omega))]
    cases g
    · left
      rw [if_pos (by decide), hI.2 rfl]
    · right
      obtain ⟨q1, q2⟩ := hI.1 rfl
      have q3 : wsc N (3 * v + w) ≠ 0 ∧ inn N (wsc N (3 * v + w) - 1) = true := by
        simpa [inx] using q1
      obtain ⟨a1, a2, j, a3, a4⟩ := b1 i hi
      have a5 := hw20 (3 * v + j) (by omega)
      have hl1 := hd_le N (cbd N v w i - 1)
      have hl2 := hd_le N (wsc N (3 * v + w) - 1)
      rw [if_neg (by decide), nI_mul, nI_add, inb_n (by omega) (by omega), gd_t, nI_clamp (by omega), hR i hi, mI_s a1, mI_s q3.1, inb_n (by omega) (by omega), gd_t, inb_n (by omega) (by omega), gd_t, nI_clamp (by omega), nI_clamp (by omega), hm _ (by omega), hm _ (by omega), hdm_in a2, hdm_in q3.2, nI_add]
      by_cases e : hd N (cbd N v w i - 1) = hd N (wsc N (3 * v + w) - 1)
      · rw [e, if_pos rfl]
        refine ⟨false, ⟨(fun q => by cases q), fun _ => ?_⟩, rfl⟩
        cases q : okv N v w
        · rfl
        · exact absurd e (((okw_iff _ _ _ _).mp q).2 i hi)
      · rw [if_neg (fun z => e ((nI_eq (by omega) (by omega)).mp z))]
        refine ⟨true, ⟨fun _ => ⟨q1, fun k hk => ?_⟩, (fun q => by cases q)⟩, rfl⟩
        rcases Nat.lt_or_ge k i with z | z
        · exact q2 k z
        · rw [show k = i by omega]; exact e
  · intro n g hI
    show f_MO_counts_57 K (n + 1) (nI v) (nI (fil N v w)) (nI w) _ (bI g) (nI (fil N v w)) σ = _
    rw [f_MO_counts_57, if_pos (Int32.le_refl _)]
    cases g
    · rw [hI.2 rfl]
    · obtain ⟨q1, q2⟩ := hI.1 rfl
      have q3 : wsc N (3 * v + w) ≠ 0 ∧ inn N (wsc N (3 * v + w) - 1) = true := by
        simpa [inx] using q1
      rw [show okv N v w = true from (okw_iff _ _ _ _).mpr ⟨q3, q2⟩]
  · cases q2 : okv N v w
    · rfl
    · have q3 := ((okw_iff _ _ _ _).mp q2).1
      rw [inx, q3.2, decide_eq_false q3.1] at q
      cases q
theorem m_counts (h : MR σ N) (hm : HM σ N) : ∃ x, f_MO_counts σ = some (0, x) ∧ Fr [128] σ x ∧ ∀ c, c < 36 → x 128 c = mI (fc N c) := by
  have hE := h.2.1.2
  have hw20 : ∀ i, i < 36 → wsc N i ≤ 20 := fun i hi => by have := (h.2.2.2.2.2.2.2.2.1 i hi).2; omega
  unfold f_MO_counts
  refine Exists.elim (lpI (fun n v (x : Sg) => f_MO_counts_2 n (nI v) x) 12 (fun v x => Fr [128] σ x ∧ ∀ c, c < 3 * v → x 128 c = mI (fc N c)) ?_ 0 FU σ (Nat.zero_le _) (by decide) ⟨Fr.rf _ _, fun c hc => absurd hc (Nat.not_lt_zero _)⟩) ?_
  · intro n v x0 hv hJ
    obtain ⟨hF0, h0⟩ := hJ
    show ∃ y, _ ∧ f_MO_counts_2 (n + 1) (nI v) x0 = _
    rw [f_MO_counts_2, if_neg (nI_ge hv (by decide))]
    refine Exists.elim (lpI (fun n2 w (x : Sg) => f_MO_counts_12 (fun x1 σ => f_MO_counts_2 n x1 σ) n2 (nI v) (nI (fil N v w)) (nI w) x) 3 (fun w x => Fr [128] σ x ∧ (∀ c, c < 3 * v → x 128 c = mI (fc N c)) ∧ ∀ k, k < w → x 128 (3 * v + k) = mI (cbd N v w k)) ?_ 0 FU x0 (Nat.zero_le _) (by decide) ⟨hF0, h0, fun k hk => absurd hk (Nat.not_lt_zero _)⟩) ?_
    · intro n2 w x hw3 hJ
      obtain ⟨hF, h1, h2⟩ := hJ
      have hfl := fil_le N v w
      have hx := h.2.2.2.2.2.2.2.2.1 (3 * v + w) (by omega)
      have hF2 : Fr [128] σ (up x 128 (3 * v + w) (-1)) := hF.up _ _ (by decide)
      have hmr := h.fr hF2 (by decide)
      have r128 : ∀ j, up x 128 (3 * v + w) (-1) 128 j = if j = 3 * v + w then -1 else x 128 j := fun j => by rw [up_s]; rfl
      show ∃ y, _ ∧ f_MO_counts_12 _ (n2 + 1) (nI v) (nI (fil N v w)) (nI w) x = _
      rw [f_MO_counts_12, if_neg (nI_ge hw3 (by decide)), nI_mul, nI_add, inb_n (by omega) (by omega), gd_t, lt', nI_clamp (by omega), nI_add, nI_add, inb_n (by omega) (by omega), gd_t, nI_clamp (by omega), lt', show 1289 + 3 * v + w = 1289 + (3 * v + w) by omega, hmr.1 _ (by omega), hx.1, mI_sub, m_isM hmr (hw20 _ (by omega)), bd_s,
        m_count57 (hm.fr hF2 (by decide)) hE _ hv hw3 (hw20 _ (by omega)) hw20 (fun k hk => by rw [r128, if_neg (by omega)]; exact h2 k (by omega))]
      unfold f_MO_counts_107
      cases q : okv N v w
      · obtain ⟨e1, e2⟩ := cb_f q
        rw [if_pos (by decide), nI_add]
        refine ⟨up x 128 (3 * v + w) (-1), ⟨hF2, fun c hc => by rw [r128, if_neg (by omega)]; exact h1 c hc, fun k hk => ?_⟩, by rw [e1]⟩
        rw [r128, e2]
        by_cases z : k = w
        · rw [if_pos (by omega), z, (cbd_in N v w).2 w hfl]; rfl
        · rw [if_neg (by omega)]; exact h2 k (by omega)
      · obtain ⟨e1, e2⟩ := cb_t q
        rw [if_neg (by decide), nI_mul, nI_add, inb_n (by omega) (by omega), gd_t, lt', nI_clamp (by omega), nI_add, nI_add, ← e1]
        refine ⟨up (up x 128 (3 * v + w) (-1)) 128 (3 * v + fil N v w) (mI (wsc N (3 * v + w))), ⟨hF2.up _ _ (by decide), fun c hc => ?_, fun k hk => ?_⟩, rfl⟩
        · rw [up_s, upd_n _ _ (by omega), r128, if_neg (by omega)]; exact h1 c hc
        · rw [up_s, e2]
          by_cases z : k = fil N v w
          · rw [z, upd_s, if_pos rfl]
          · rw [upd_n _ _ (by omega), if_neg z, r128]
            by_cases z2 : k = w
            · rw [if_pos (by omega), z2, (cbd_in N v w).2 w hfl]; rfl
            · rw [if_neg (by omega)]; exact h2 k (by omega)
    · rintro m ⟨x, ⟨hF, h1, h2⟩, heq⟩
      refine ⟨x, ⟨hF, fun c hc => ?_⟩, heq.trans ?_⟩
      · rcases Nat.lt_or_ge c (3 * v) with z | z
        · exact h1 c z
        · rw [show c = 3 * v + (c - 3 * v) by omega, fc_at (by omega)]
          exact h2 _ (by omega)
      · show f_MO_counts_12 _ (m + 1) (nI v) (nI (fil N v 3)) (nI 3) x = _
        rw [f_MO_counts_12, if_pos (Int32.le_refl _), nI_add]
  · rintro m ⟨x, ⟨hF, h1⟩, heq⟩
    refine ⟨x, heq.trans ?_, hF, fun c hc => h1 c (by omega)⟩
    show f_MO_counts_2 (m + 1) (nI 12) x = _
    rw [f_MO_counts_2, if_pos (Int32.le_refl _)]
end CN2
