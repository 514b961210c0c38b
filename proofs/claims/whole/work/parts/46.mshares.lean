/-! the reference's shares, and all that it works out -/
theorem td_ng {N : Rw} (k : Nat) : ahc N k + td N k ≤ ng N := by
  unfold ahc td tdb ng
  rw [← cnt_or]
  · refine cnt_mono (fun i hi q => ?_)
    simp [ahd] at q
    rcases q with ⟨q1, q2⟩ | ⟨q1, q2⟩ <;> exact q1
  · intro i hi q
    simp [ahd] at q
    omega
section MSH
variable {σ : Sg} {N : Rw}
theorem mem_ev (hN : InvN N) {k c : Nat} (h : mem N k c = true) : c < ev N := by
  have q : inn N c = true ∧ hd N c = k := by simpa [mem] using h
  exact (hN.in_lt q.1).2
theorem mb_ev (hN : InvN N) (k : Nat) : mb N k (ev N) = mb N k 20 := by
  refine (sm_out hN.1.2 (fun i h1 h2 => ?_)).symm
  show b2n (mem N k i) = 0
  cases w : mem N k i
  · rfl
  · have := mem_ev hN w; omega
theorem hdm_mem (hN : InvN N) {c k : Nat} (hc : c < 20) (hk : k < 20) : (hdm N c = nI k) ↔ mem N k c = true := by
  rw [hdm_eq hc hk]
  simp [mem]
theorem m_prizeOf (h : MR σ N) {p : Nat} (hp : p < 1000) : f_MO_prizeOf (nI (p + 1)) σ = some (nI (pz N p), σ) := by
  have h5 : stt N 1 ≤ 5 := h.2.2.2.2.2.2.2.2.2.2.2.2.1.2.1
  have h2 : σ 113 2 = nI (stt N 1) := (h.1 2 (by decide)).trans (h.2.2.2.2.2.2.2.2.2.2.2.1 1 (by decide))
  unfold f_MO_prizeOf pz
  rw [inb_n (by decide) (by decide), gd_t, nI_clamp (by decide), h2, nI_add, mI_sub, mI_s (by omega), show 4 + (p + 1) - 1 = 4 + p by omega]
  by_cases z : p < stt N 1
  · rw [if_neg (fun w => by have := (nI_ltI (by omega) (by omega)).mp w; omega), if_pos z, inb_n (by omega) (by omega), gd_t, nI_clamp (by omega), h.1 (4 + p) (by omega), (h.2.2.2.2.2.2.2.2.2.2.2.2.2 p (by omega)).1]
  · rw [if_pos ((nI_ltI (by omega) (by omega)).mpr (by omega)), if_neg z]
theorem m_shares (h : MR σ N) (hm : HM σ N) {k a : Nat} (hk : isHd N k = true) (ha : a < 1000000) : ∃ y, f_MO_shares (nI k) (nI a) σ = some (0, y) ∧ Fr [127] σ y ∧ ∀ c, c < 20 → y 127 c = if mem N k c = true then nI (por a (mb N k 20) (mb N k c)) else σ 127 c := by
  have hk20 := hd_lt20 hk
  have hE := h.2.1.2
  have hp := mb_pos hk
  have h20 := mb_le N k 20
  unfold f_MO_shares
  have l1 : f_MO_shares_5 FU (nI k) (nI a) (nI 0) (nI 0) σ = f_MO_shares_49 FU (nI k) (nI a) (nI (mb N k 20)) (zI (((a % mb N k 20 : Nat) : Int) - (mb N k 0 : Int))) (nI 0) σ := by
    refine (lpS (fun n i y => f_MO_shares_5 n (nI k) (nI a) (nI y) (nI i) σ) (ev N) (fun i => b2n (mem N k i)) (fun y => f_MO_shares_49 FU (nI k) (nI a) (nI (mb N k 20)) (zI (((a % mb N k 20 : Nat) : Int) - (mb N k 0 : Int))) (nI 0) σ) ?_ ?_ FU (by unfold FU; omega))
    · intro n i y hi hy
      show f_MO_shares_5 (n + 1) (nI k) (nI a) (nI y) (nI i) σ = _
      rw [f_MO_shares_5, inb_n (by decide) (by decide), gd_t, nI_clamp (by decide), m_ev h, if_neg (nI_ge hi (by omega)), inb_n (by omega) (by omega), gd_t, nI_clamp (by omega), hm i (by omega), nI_add, lt', nI_add, lt', nI_add]
      cases q : mem N k i
      · rw [if_neg (fun w => by rw [(hdm_mem h.2 (by omega) hk20).mp w] at q; cases q)]; rfl
      · rw [if_pos ((hdm_mem h.2 (by omega) hk20).mpr q)]; rfl
    · intro n
      show f_MO_shares_5 (n + 1) (nI k) (nI a) (nI (mb N k (ev N))) (nI (ev N)) σ = _
      rw [mb_ev h.2, f_MO_shares_5, inb_n (by decide) (by decide), gd_t, nI_clamp (by decide), m_ev h, if_pos (Int32.le_refl _), nz_n hp (by omega), gd_t, nI_rem (by omega) hp (by omega), lt', nI_z (a % mb N k 20), show (mb N k 0 : Int) = 0 from rfl, Int.sub_zero]
  rw [l1]
  generalize hs : mb N k 20 = s at *
  have hr := Nat.mod_lt a hp
  have hd2 := Nat.div_le_self a s
  refine Exists.elim (lpI (fun n i (y : Sg) => f_MO_shares_49 n (nI k) (nI a) (nI s) (zI (((a % s : Nat) : Int) - (mb N k i : Int))) (nI i) y) (ev N) (fun i y => Fr [127] σ y ∧ ∀ c, c < 20 → y 127 c = if mem N k c = true ∧ c < i then nI (por a s (mb N k c)) else σ 127 c) ?_ 0 FU σ (Nat.zero_le _) (by unfold FU; omega) ⟨Fr.rf _ _, fun c hc => (if_neg (fun w => absurd w.2 (Nat.not_lt_zero _))).symm⟩) ?_
  · intro n i y hi hI
    obtain ⟨hF, h1⟩ := hI
    have hmr := h.fr hF (by decide)
    have hmm := hm.fr hF (by decide)
    have hmi := mb_le N k i
    have hst : mb N k (i + 1) = mb N k i + b2n (mem N k i) := rfl
    have old : ∀ c, c ≠ i → (if mem N k c = true ∧ c < i + 1 then nI (por a s (mb N k c)) else σ 127 c) = if mem N k c = true ∧ c < i then nI (por a s (mb N k c)) else σ 127 c := by
      intro c hc
      by_cases w : mem N k c = true ∧ c < i
      · rw [if_pos w, if_pos ⟨w.1, by omega⟩]
      · rw [if_neg w, if_neg (fun u => w ⟨u.1, by omega⟩)]
    show ∃ z, _ ∧ f_MO_shares_49 (n + 1) (nI k) (nI a) (nI s) (zI (((a % s : Nat) : Int) - (mb N k i : Int))) (nI i) y = _
    rw [f_MO_shares_49, inb_n (by decide) (by decide), gd_t, nI_clamp (by decide), m_ev hmr, if_neg (nI_ge hi (by omega)), inb_n (by omega) (by omega), gd_t, nI_clamp (by omega), hmm i (by omega), nI_add]
    cases q : mem N k i
    · rw [if_neg (fun w => by rw [(hdm_mem h.2 (by omega) hk20).mp w] at q; cases q)]
      refine ⟨y, ⟨hF, fun c hc => ?_⟩, by rw [hst, q]; rfl⟩
      by_cases z : c = i
      · rw [h1 c hc, z, if_neg (fun w => absurd w.2 (Nat.lt_irrefl _)), if_neg (fun w => by rw [q] at w; cases w.1)]
      · rw [old c z]; exact h1 c hc
    · rw [if_pos ((hdm_mem h.2 (by omega) hk20).mpr q), nz_n hp (by omega), gd_t, nI_div (by omega) hp (by omega)]
      have tail : ∀ t, t = b2n (decide (mb N k i < a % s)) → ∃ z, (Fr [127] σ z ∧ ∀ c, c < 20 → z 127 c = if mem N k c = true ∧ c < i + 1 then nI (por a s (mb N k c)) else σ 127 c) ∧ f_MO_shares_90 (fun x1 x2 x3 x4 x5 σ => f_MO_shares_49 n x1 x2 x3 x4 x5 σ) (nI k) (nI a) (nI s) (zI (((a % s : Nat) : Int) - (mb N k i : Int))) (nI i) (nI t) (nI (a / s)) (nI i) y = f_MO_shares_49 n (nI k) (nI a) (nI s) (zI (((a % s : Nat) : Int) - (mb N k (i + 1) : Int))) (nI (i + 1)) z := by
        intro t ht
        unfold f_MO_shares_90
        rw [inb_n (by omega) (by omega), gd_t, nI_clamp (by omega), nI_add, lt', show (-1 : Int32) = zI (-1) from rfl, zI_add, nI_add]
        refine ⟨up y 127 i (nI (a / s + t)), ⟨hF.up _ _ (by decide), fun c hc => ?_⟩, by rw [hst, q, b2n_t, show (((a % s : Nat) : Int) - (mb N k i : Int) + -1) = ((a % s : Nat) : Int) - ((mb N k i + 1 : Nat) : Int) by omega]⟩
        rw [up_s]
        by_cases z : c = i
        · rw [z, upd_s, if_pos ⟨q, Nat.lt_succ_self _⟩, ht]; rfl
        · rw [upd_n _ _ z, old c z]; exact h1 c hc
      by_cases z : mb N k i < a % s
      · rw [if_neg (fun (w : zI (((a % s : Nat) : Int) - (mb N k i : Int)) ≤ nI 0) => by have := (zI_le (a := ((a % s : Nat) : Int) - (mb N k i : Int)) (b := 0) (by omega) (by omega) (by decide) (by decide)).mp w; omega)]
        exact tail 1 (by rw [decide_eq_true z]; rfl)
      · rw [if_pos (show zI (((a % s : Nat) : Int) - (mb N k i : Int)) ≤ nI 0 from (zI_le (a := ((a % s : Nat) : Int) - (mb N k i : Int)) (b := 0) (by omega) (by omega) (by decide) (by decide)).mpr (by omega))]
        exact tail 0 (by rw [decide_eq_false z]; rfl)
  · rintro m ⟨y, ⟨hF, h1⟩, heq⟩
    have hmr := h.fr hF (by decide)
    refine ⟨y, heq.trans ?_, hF, fun c hc => ?_⟩
    · show f_MO_shares_49 (m + 1) (nI k) (nI a) (nI s) _ (nI (ev N)) y = _
      rw [f_MO_shares_49, inb_n (by decide) (by decide), gd_t, nI_clamp (by decide), m_ev hmr, if_pos (Int32.le_refl _)]
    · rw [h1 c hc]
      by_cases w : mem N k c = true
      · rw [if_pos w, if_pos ⟨w, mem_ev h.2 w⟩]
      · rw [if_neg w, if_neg (fun u => w u.1)]
/-- the reference's order -/
def OrM (N : Rw) (x : Sg) : Prop := ∀ k, isHd N k = true → x 125 k = nI (pla N k) ∧ x 126 (idx N k) = nI k
def ShP (N : Rw) (p : Nat) (x : Sg) : Prop := ∀ c, c < 20 → x 127 c = nI (if inn N c = true ∧ idx N (hd N c) < p then ocp N c else 0)
theorem pla_le (N : Rw) (k : Nat) : pla N k ≤ 21 := by have := ahc_le N k; unfold pla; omega
theorem m_block (h : MR σ N) (hm : HM σ N) (hn : σ 112 23 = nI (ng N)) (ho : OrM N σ) (K : Int32 → Sg → Option (Int32 × Sg)) {k : Nat} (hk : isHd N k = true) (hik : idx N k = ahc N k) (hS : ShP N (ahc N k) σ) : ∃ y, f_MO_works_24 K FU (nI (ahc N k)) (nI 1) σ = K (nI (ahc N k + td N k)) y ∧ Fr [127] σ y ∧ ShP N (ahc N k + td N k) y := by
  have hg := ng_le N
  have hb := td_ng (N := N) k
  have ht := td_pos hk
  have hk20 := hd_lt20 hk
  have hkk := ho k hk
  rw [hik] at hkk
  have hp := pot_le h.2 k
  have l1 : f_MO_works_24 K FU (nI (ahc N k)) (nI 1) σ = f_MO_works_67 K (nI (ahc N k)) (nI (td N k)) σ := by
    refine Exists.elim (lpI (fun n i (_ : Unit) => f_MO_works_24 K n (nI (ahc N k)) (nI i) σ) (td N k) (fun _ _ => True) ?_ 1 FU () (by omega) (by unfold FU; omega) trivial) ?_
    · intro n i _ hi _
      obtain ⟨y, y1, y2⟩ := idx_sur N (r := ahc N k + i) (by omega)
      have hy := ho y y1
      have hy20 := hd_lt20 y1
      rw [y2] at hy
      refine ⟨(), trivial, ?_⟩
      show f_MO_works_24 K (n + 1) (nI (ahc N k)) (nI i) σ = _
      rw [f_MO_works_24, nI_add, hn, if_neg (nI_ge (by omega) (by omega)), inb_n (by omega) (by omega), gd_t, nI_clamp (by omega), hy.2, inb_n hy20 (by omega), gd_t, inb_n (by omega) (by omega), gd_t, nI_clamp (by omega), hkk.2, inb_n hk20 (by omega), gd_t, nI_clamp (by omega), nI_clamp (by omega), hy.1, hkk.1, if_pos (by rw [(pla_iff y1 hk).mpr ((blk_iff y1 hk).mpr (by omega))]), nI_add]
    · rintro m ⟨_, -, heq⟩
      refine heq.trans ?_
      show f_MO_works_24 K (m + 1) (nI (ahc N k)) (nI (td N k)) σ = _
      rw [f_MO_works_24, nI_add, hn]
      by_cases z : ahc N k + td N k < ng N
      · obtain ⟨y, y1, y2⟩ := idx_sur N z
        have hy := ho y y1
        have hy20 := hd_lt20 y1
        have p1 := pla_le N y
        have p2 := pla_le N k
        rw [y2] at hy
        rw [if_neg (nI_ge (by omega) (by omega)), inb_n (by omega) (by omega), gd_t, nI_clamp (by omega), hy.2, inb_n hy20 (by omega), gd_t, inb_n (by omega) (by omega), gd_t, nI_clamp (by omega), hkk.2, inb_n hk20 (by omega), gd_t, nI_clamp (by omega), nI_clamp (by omega), hy.1, hkk.1, if_neg (fun w => by
          have w1 := (nI_eq (by omega) (by omega)).mp w
          have w2 := (blk_iff y1 hk).mp ((pla_iff y1 hk).mp w1)
          omega)]
      · rw [if_pos ((nI_leI (by omega) (by omega)).mpr (by omega))]
  have l2 : f_MO_works_67 K (nI (ahc N k)) (nI (td N k)) σ = f_MO_works_100 K FU (nI (ahc N k)) (nI (td N k)) (nI (pot N k)) (nI 0) σ := by
    unfold f_MO_works_67
    refine lpS (fun n i y => f_MO_works_72 K n (nI (ahc N k)) (nI (td N k)) (nI y) (nI i) σ) (td N k) (fun i => pz N (ahc N k + i)) (fun y => f_MO_works_100 K FU (nI (ahc N k)) (nI (td N k)) (nI y) (nI 0) σ) ?_ ?_ FU (by unfold FU; omega)
    · intro n i y hi hy
      show f_MO_works_72 K (n + 1) (nI (ahc N k)) (nI (td N k)) (nI y) (nI i) σ = _
      rw [f_MO_works_72, if_neg (nI_ge hi (by omega)), nI_add, nI_add, m_prizeOf h (by omega), bd_s, nI_add, lt', nI_add]
    · intro n
      show f_MO_works_72 K (n + 1) (nI (ahc N k)) (nI (td N k)) _ (nI (td N k)) σ = _
      rw [f_MO_works_72, if_pos (Int32.le_refl _)]
  rw [l1, l2]
  refine Exists.elim (lpI (fun n i (y : Sg) => f_MO_works_100 K n (nI (ahc N k)) (nI (td N k)) (nI (pot N k)) (nI i) y) (td N k) (fun i y => Fr [127] σ y ∧ ShP N (ahc N k + i) y) ?_ 0 FU σ (Nat.zero_le _) (by unfold FU; omega) ⟨Fr.rf _ _, hS⟩) ?_
  · intro n i y hi hI
    obtain ⟨hF, h1⟩ := hI
    obtain ⟨g, g1, g2⟩ := idx_sur N (r := ahc N k + i) (by omega)
    have g20 := hd_lt20 g1
    have hgg := ho g g1
    rw [g2] at hgg
    have tg : kz N g = kz N k := (blk_iff g1 hk).mpr (by omega)
    obtain ⟨b1, b2, b3⟩ := blk_eq tg
    have b4 : tdb N g g = i := by
      have : idx N g = ahc N g + tdb N g g := rfl
      omega
    have e : ogr N g = por (pot N k) (td N k) i := by unfold ogr; rw [if_pos g1, b2, b3, b4]
    have hd2 := Nat.div_le_self (pot N k) (td N k)
    have hr := Nat.mod_lt (pot N k) ht
    have tail : ∀ t, t = b2n (decide (i < pot N k % td N k)) → ∃ z, (Fr [127] σ z ∧ ShP N (ahc N k + (i + 1)) z) ∧ f_MO_works_132 (fun x1 x2 x3 x4 σ => f_MO_works_100 K n x1 x2 x3 x4 σ) (nI (ahc N k)) (nI (td N k)) (nI (pot N k)) (nI i) (nI t) (nI (pot N k / td N k)) (nI g) y = f_MO_works_100 K n (nI (ahc N k)) (nI (td N k)) (nI (pot N k)) (nI (i + 1)) z := by
      intro t ht2
      have e2 : pot N k / td N k + t = ogr N g := by rw [e, ht2]; rfl
      have ho2 := ogr_le h.2 g
      unfold f_MO_works_132
      rw [nI_add, e2]
      obtain ⟨z, z1, z2, z3⟩ := m_shares (h.fr hF (by decide)) (hm.fr hF (by decide)) g1 (a := ogr N g) (by omega)
      rw [z1, bd_s, nI_add]
      refine ⟨z, ⟨hF.tr z2, fun c hc => ?_⟩, rfl⟩
      rw [z3 c hc]
      by_cases w : mem N g c = true
      · have w2 : inn N c = true ∧ hd N c = g := by simpa [mem] using w
        rw [if_pos w, if_pos ⟨w2.1, by rw [w2.2]; omega⟩]
        unfold ocp
        rw [if_pos w2.1, w2.2]
      · rw [if_neg w, h1 c hc]
        by_cases u : inn N c = true ∧ idx N (hd N c) < ahc N k + i
        · rw [if_pos u, if_pos ⟨u.1, by omega⟩]
        · rw [if_neg u, if_neg (fun v => by
            have hh := hd_isHd h.2 v.1
            by_cases v2 : idx N (hd N c) = ahc N k + i
            · have v3 := idx_inj (hd_lt20 hh) g20 hh g1 (by omega)
              exact w (by unfold mem; rw [v.1, decide_eq_true v3]; rfl)
            · exact u ⟨v.1, by omega⟩)]
    show ∃ z, _ ∧ f_MO_works_100 K (n + 1) (nI (ahc N k)) (nI (td N k)) (nI (pot N k)) (nI i) y = _
    rw [f_MO_works_100, if_neg (nI_ge hi (by omega)), nI_add, inb_n (by omega) (by omega), gd_t, nz_n ht (by omega), gd_t, gd_t, nI_rem (by omega) ht (by omega), nI_div (by omega) ht (by omega), nI_clamp (by omega), hF 126 (by decide), hgg.2]
    by_cases z : i < pot N k % td N k
    · rw [if_neg (nI_ge z (by omega))]
      exact tail 1 (by rw [decide_eq_true z]; rfl)
    · rw [if_pos ((nI_leI (by omega) (by omega)).mpr (by omega))]
      exact tail 0 (by rw [decide_eq_false z]; rfl)
  · rintro m ⟨y, ⟨hF, h1⟩, heq⟩
    refine ⟨y, heq.trans ?_, hF, h1⟩
    show f_MO_works_100 K (m + 1) (nI (ahc N k)) (nI (td N k)) (nI (pot N k)) (nI (td N k)) y = _
    rw [f_MO_works_100, if_pos (Int32.le_refl _), nI_add, lt']
theorem m_blocks (h : MR σ N) (hm : HM σ N) (hn : σ 112 23 = nI (ng N)) (ho : OrM N σ) : ∀ (M n p : Nat) (x : Sg), ng N - p ≤ M → M < n → p ≤ ng N → (p = ng N ∨ ∃ k, isHd N k = true ∧ idx N k = p ∧ ahc N k = p) → Fr [127] σ x → ShP N p x → ∃ y, f_MO_works_14 n (nI p) x = some (0, y) ∧ Fr [127] σ y ∧ ShP N (ng N) y := by
  have hg := ng_le N
  have stop : ∀ (n : Nat) (x : Sg), Fr [127] σ x → ShP N (ng N) x → ∃ y, f_MO_works_14 (n + 1) (nI (ng N)) x = some (0, y) ∧ Fr [127] σ y ∧ ShP N (ng N) y := by
    intro n x hF hS
    refine ⟨x, ?_, hF, hS⟩
    rw [f_MO_works_14, hF 112 (by decide), hn, if_pos (Int32.le_refl _)]
  intro M
  induction M with
  | zero =>
    intro n p x h1 h2 h3 h4 hF hS
    obtain ⟨n, rfl⟩ : ∃ m, n = m + 1 := ⟨n - 1, by omega⟩
    have e : p = ng N := by omega
    rw [e] at hS ⊢
    exact stop n x hF hS
  | succ M ih =>
    intro n p x h1 h2 h3 h4 hF hS
    obtain ⟨n, rfl⟩ : ∃ m, n = m + 1 := ⟨n - 1, by omega⟩
    by_cases e : p = ng N
    · rw [e] at hS ⊢
      exact stop n x hF hS
    · obtain ⟨k, k1, k2, k3⟩ := h4.resolve_left e
      have hb := td_ng (N := N) k
      have ht := td_pos k1
      obtain ⟨y, y1, y2, y3⟩ := m_block (h.fr hF (by decide)) (hm.fr hF (by decide)) ((hF.mono (M := [127]) (by decide) 112 (by decide)) ▸ hn) (fun k hk => by rw [hF 125 (by decide), hF 126 (by decide)]; exact ho k hk) (fun x1 σ => f_MO_works_14 n x1 σ) k1 (by omega) (by rw [k3]; exact hS)
      rw [k3] at y1
      obtain ⟨z, z1, z2, z3⟩ := ih n (ahc N k + td N k) y (by omega) (by omega) (by omega) (by
        by_cases w : ahc N k + td N k = ng N
        · exact Or.inl w
        · obtain ⟨g, g1, g2⟩ := idx_sur N (r := ahc N k + td N k) (by omega)
          refine Or.inr ⟨g, g1, g2, ?_⟩
          have e1 : idx N g = ahc N g + tdb N g g := rfl
          rcases Int.lt_trichotomy (kz N g) (kz N k) with q | q | q
          · have := blk q; omega
          · have := (blk_iff g1 k1).mp q; omega
          · have := blk q
            have := tdb_lt g1
            omega) (hF.tr y2) y3
      refine ⟨z, ?_, z2, z3⟩
      rw [f_MO_works_14, hF 112 (by decide), hn, if_neg (nI_ge (by omega) (by omega)), y1, ← k3]
      exact z1
/-- all that the reference works out -/
def WM (N : Rw) (x : Sg) : Prop := TM N x ∧ GAll N x ∧ OrM N x ∧ ∀ c, c < 20 → x 127 c = nI (ocp N c)
theorem m_works (h : MR σ N) : ∃ x, f_MO_works σ = some (0, x) ∧ Fr [112, 117, 118, 119, 120, 121, 122, 123, 124, 125, 126, 127, 128, 129, 130] σ x ∧ (∀ i, i ≠ 23 → x 112 i = σ 112 i) ∧ WM N x := by
  unfold f_MO_works
  obtain ⟨a, a1, a2, a3, a4⟩ := m_tallies h
  rw [a1, bd_s]
  have ha := h.fr a2 (by decide)
  obtain ⟨b, b1, b2, b3⟩ := m_rounds ha a4
  rw [b1, bd_s]
  have hb := ha.fr b2 (by decide)
  have tb := tm_fr a4 b2 (by decide)
  obtain ⟨c, c1, c2, c3, c4⟩ := m_orders hb tb b3
  rw [c1, bd_s]
  have hc := hb.fr c2 (by decide)
  have tc := tm_fr tb c2 (by decide)
  obtain ⟨d, d1, d2, d3⟩ := m_blocks hc tc.1 tc.2.1 c3 (ng N) FU 0 c (by omega) (by have := ng_le N; unfold FU; omega) (Nat.zero_le _) (by
    by_cases w : ng N = 0
    · exact Or.inl w.symm
    · obtain ⟨g, g1, g2⟩ := idx_sur N (r := 0) (by omega)
      have e1 : idx N g = ahc N g + tdb N g g := rfl
      exact Or.inr ⟨g, g1, g2, by omega⟩) (Fr.rf _ _) (fun i hi => by rw [if_neg (fun w => absurd w.2 (Nat.not_lt_zero _))]; exact c4 i hi)
  have fa : Fr [112, 117, 118, 119, 120, 121, 122, 123, 124, 125, 126, 127, 128, 129, 130] σ d := (((a2.mono (by decide)).tr (b2.mono (by decide))).tr (c2.mono (by decide))).tr (d2.mono (by decide))
  refine ⟨d, d1, fa, fun i hi => ?_, tm_fr tc d2 (by decide), ⟨fun r hr => ?_, fun k hk => ?_⟩, fun k hk => ?_, fun i hi => ?_⟩
  · rw [d2 112 (by decide), c2 112 (by decide), b2 112 (by decide)]; exact a3 i hi
  · rw [d2 122 (by decide), c2 122 (by decide), d2 123 (by decide), c2 123 (by decide), d2 124 (by decide), c2 124 (by decide)]; exact b3.1 r hr
  · rw [d2 121 (by decide), c2 121 (by decide)]; exact b3.2 k hk
  · rw [d2 125 (by decide), d2 126 (by decide)]; exact c3 k hk
  · rw [d3 i hi]
    by_cases q : inn N i = true
    · rw [if_pos ⟨q, idx_ng (hd_isHd h.2 q)⟩]
    · rw [if_neg (fun w => q w.1)]; unfold ocp; rw [if_neg q]
end MSH
