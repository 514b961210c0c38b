/-! the order of groups, by one whole number for each -/
def zI (z : Int) : Int32 := Int32.ofInt z
theorem zI_add (a b : Int) : zI a + zI b = zI (a + b) := (Int32.ofInt_add a b).symm
theorem zI_sub (a b : Int) : zI a - zI b = zI (a - b) := (Int32.ofInt_sub a b).symm
theorem zI_mul (a b : Int) : zI a * zI b = zI (a * b) := (Int32.ofInt_mul a b).symm
theorem nI_z (n : Nat) : nI n = zI (n : Int) := Int32.ofInt_eq_ofNat.symm
theorem zI_t {z : Int} (h1 : -1000000000 ≤ z) (h2 : z ≤ 1000000000) : (zI z).toInt = z := Int32.toInt_ofInt_of_le (by omega) (by omega)
theorem zI_le {a b : Int} (h1 : -1000000000 ≤ a) (h2 : a ≤ 1000000000) (h3 : -1000000000 ≤ b) (h4 : b ≤ 1000000000) : (zI a ≤ zI b) ↔ a ≤ b := by
  rw [Int32.le_iff_toInt_le, zI_t h1 h2, zI_t h3 h4]
theorem zI_lt {a b : Int} (h1 : -1000000000 ≤ a) (h2 : a ≤ 1000000000) (h3 : -1000000000 ≤ b) (h4 : b ≤ 1000000000) : (zI a < zI b) ↔ a < b := by
  rw [Int32.lt_iff_toInt_lt, zI_t h1 h2, zI_t h3 h4]
theorem zI_eq {a b : Int} (h1 : -1000000000 ≤ a) (h2 : a ≤ 1000000000) (h3 : -1000000000 ≤ b) (h4 : b ≤ 1000000000) : (zI a = zI b) ↔ a = b := by
  rw [← Int32.toInt_inj, zI_t h1 h2, zI_t h3 h4]
noncomputable def fin' (N : Rw) (k : Nat) : Nat := os N (ng N - 1) k
noncomputable def sc (N : Rw) (k : Nat) : Int := 10 * (pts N k : Int) - (sr N k : Int)
noncomputable def kz (N : Rw) (k : Nat) : Int :=
  if stt N 0 = 1 then (if fin' N k = 0 then 20 else (fin' N k : Int) - 1) else if stt N 2 = 0 then sc N k else
    (((sc N k * 13 + (frs N k : Int)) * 61 + 60) - (sr N k : Int)) * 20 + 20 - 1 - (k : Int)
theorem pts_le (N : Rw) (g : Nat) : pts N g ≤ 108 := by
  have h := sm_le (p := pw N g) (b := 3) (n := 36) (fun i _ => by
    unfold pw
    by_cases q : fc N i ≠ 0 ∧ hd N (fc N i - 1) = g
    · rw [if_pos q]; omega
    · rw [if_neg q]; omega)
  unfold pts
  omega
theorem sm_mono2 {p q : Nat → Nat} {n : Nat} (h : ∀ i, i < n → p i ≤ q i) : sm p n ≤ sm q n := by
  induction n with
  | zero => exact Nat.le_refl _
  | succ n ih =>
    have h1 := ih (fun i hi => h i (by omega))
    have h2 := h n (by omega)
    rw [sm, sm]
    omega
theorem frs_le (N : Rw) (g : Nat) : frs N g ≤ 12 := by
  have h := sm_mono2 (p := fw N g) (q := fun c => b2n (decide (c % 3 = 0))) (n := 36) (fun i _ => by
    unfold fw
    by_cases q : (fc N i ≠ 0 ∧ hd N (fc N i - 1) = g) ∧ i % 3 = 0
    · rw [if_pos q, decide_eq_true q.2]; exact Nat.le_refl _
    · rw [if_neg q]; exact Nat.zero_le _)
  have e : sm (fun c => b2n (decide (c % 3 = 0))) 36 = 12 := by decide
  unfold frs
  omega
theorem rk_20 (N : Rw) (j : Nat) {g : Nat} (hg : g < 20) : rk N j g ≤ 20 := by
  have := cnt_lt (p := mor N j (gp N j g)) (n := 20) (j := g) hg (by unfold mor; rw [decide_eq_false (Nat.lt_irrefl _), Bool.and_false])
  unfold rk
  omega
theorem sr_60 (N : Rw) {g : Nat} (hg : g < 20) : sr N g ≤ 60 := by
  have h0 := rk_20 N 0 hg
  have h1 := rk_20 N 1 hg
  have h2 := rk_20 N 2 hg
  show 0 + rk N 0 g + rk N 1 g + rk N 2 g ≤ 60
  omega
theorem fin_le (N : Rw) (k : Nat) : fin' N k ≤ 20 := by
  have h1 := (lft_cnt N (ng N - 1) (by omega)).2 k
  have h2 := ng_le N
  unfold fin'
  omega
theorem sc_b (N : Rw) (k : Nat) : -63 ≤ sc N k ∧ sc N k ≤ 1080 := by
  have h1 := pts_le N k
  have h2 := sr_le N k
  unfold sc
  omega
theorem kz_b (N : Rw) {k : Nat} (hk : k < 20) : -1000000000 ≤ kz N k ∧ kz N k ≤ 1000000000 := by
  have h1 := sc_b N k
  have h2 := frs_le N k
  have h3 := sr_60 N hk
  have h4 := fin_le N k
  unfold kz
  by_cases q : stt N 0 = 1
  · rw [if_pos q]
    by_cases q2 : fin' N k = 0
    · rw [if_pos q2]; omega
    · rw [if_neg q2]; omega
  · rw [if_neg q]
    by_cases q2 : stt N 2 = 0
    · rw [if_pos q2]; omega
    · rw [if_neg q2]; omega
noncomputable def ahd (N : Rw) (x k : Nat) : Bool := decide (kz N k < kz N x)
noncomputable def bef (N : Rw) (x k : Nat) : Bool := decide (kz N k < kz N x) || (decide (kz N x = kz N k) && decide (x < k))
noncomputable def ahc (N : Rw) (k : Nat) : Nat := cnt (fun x => isHd N x && ahd N x k) 20
noncomputable def tdb (N : Rw) (k b : Nat) : Nat := cnt (fun x => isHd N x && decide (kz N x = kz N k)) b
noncomputable def idx (N : Rw) (k : Nat) : Nat := ahc N k + tdb N k k
/-! counting once more -/
theorem cnt_mono {p q : Nat → Bool} {n : Nat} (h : ∀ i, i < n → p i = true → q i = true) : cnt p n ≤ cnt q n := sm_mono2 (fun i hi => by
  cases z : p i
  · exact Nat.zero_le _
  · rw [h i hi z]; exact Nat.le_refl _)
theorem sm_add (p q : Nat → Nat) (n : Nat) : sm (fun i => p i + q i) n = sm p n + sm q n := by
  induction n with
  | zero => rfl
  | succ n ih => rw [sm, sm, sm, ih]; omega
theorem cnt_or {p q : Nat → Bool} {n : Nat} (h : ∀ i, i < n → ¬ (p i = true ∧ q i = true)) : cnt (fun i => p i || q i) n = cnt p n + cnt q n := by
  unfold cnt
  rw [← sm_add]
  refine sm_cong (fun i hi => ?_)
  have := h i hi
  cases z : p i <;> cases z2 : q i <;> simp_all [b2n]
theorem cnt_cut (p : Nat → Bool) {k n : Nat} (h : k ≤ n) : cnt (fun i => p i && decide (i < k)) n = cnt p k := by
  unfold cnt
  rw [sm_out (p := fun i => b2n (p i && decide (i < k))) h (fun i h1 h2 => by
    rw [decide_eq_false (by omega), Bool.and_false]; rfl)]
  exact sm_cong (fun i hi => by rw [decide_eq_true hi, Bool.and_true])
theorem cnt_zero {p : Nat → Bool} {n : Nat} (h : ∀ i, i < n → p i = false) : cnt p n = 0 := by
  unfold cnt
  rw [sm_cong (q := fun _ => 0) (fun i hi => by rw [h i hi]; rfl)]
  induction n with
  | zero => rfl
  | succ n ih => rw [sm, ih (fun i hi => h i (by omega))]
theorem cnt_one {p : Nat → Bool} {n : Nat} (h : ∀ i j, i < n → j < n → p i = true → p j = true → i = j) : cnt p n ≤ 1 := by
  induction n with
  | zero => exact Nat.zero_le _
  | succ n ih =>
    rw [cnt_s]
    have h1 := ih (fun i j hi hj => h i j (by omega) (by omega))
    cases z : p n
    · rw [b2n_f]; exact h1
    · rw [cnt_zero (fun i hi => by
        cases w : p i
        · rfl
        · have := h i n (by omega) (by omega) w z; omega), b2n_t]
      exact Nat.le_refl _
theorem idx_bef (N : Rw) {k : Nat} (hk : k ≤ 20) : idx N k = cnt (fun x => isHd N x && bef N x k) 20 := by
  unfold idx ahc tdb
  rw [← cnt_cut (fun x => isHd N x && decide (kz N x = kz N k)) hk, ← cnt_or]
  · refine cnt_cong (fun i hi => ?_)
    unfold ahd bef
    cases isHd N i <;> cases decide (kz N k < kz N i) <;> cases decide (kz N i = kz N k) <;> cases decide (i < k) <;> rfl
  · intro i hi h
    simp [ahd] at h
    omega
theorem bef_iff (N : Rw) (x k : Nat) : bef N x k = true ↔ kz N k < kz N x ∨ (kz N x = kz N k ∧ x < k) := by simp [bef]
theorem idx_lt {N : Rw} {x k : Nat} (hx : x < 20) (hk : k < 20) (hix : isHd N x = true) (h : bef N x k = true) : idx N x < idx N k := by
  rw [idx_bef N (by omega), idx_bef N (by omega)]
  have hb := (bef_iff N x k).mp h
  have h1 : cnt (fun y => isHd N y && bef N y x) 20 + 1 ≤ cnt (fun y => (isHd N y && bef N y x) || decide (y = x)) 20 := by
    rw [cnt_or]
    · have : cnt (fun y => decide (y = x)) 20 = 1 := by
        have u := cnt_upd (p := fun _ => false) (q := fun y => decide (y = x)) (n := 20) (j := x) hx (fun i hi => decide_eq_false hi)
        rw [decide_eq_true rfl, b2n_t, b2n_f, cnt_zero (p := fun _ => false) (fun _ _ => rfl)] at u
        omega
      omega
    · intro i hi w
      simp only [Bool.and_eq_true, decide_eq_true_eq] at w
      obtain ⟨⟨w1, w2⟩, w3⟩ := w
      rw [w3, bef_iff] at w2
      omega
  have h2 : cnt (fun y => (isHd N y && bef N y x) || decide (y = x)) 20 ≤ cnt (fun y => isHd N y && bef N y k) 20 := by
    refine cnt_mono (fun i hi w => ?_)
    simp only [Bool.or_eq_true, Bool.and_eq_true, decide_eq_true_eq] at w ⊢
    rcases w with ⟨w1, w2⟩ | w
    · refine ⟨w1, (bef_iff N i k).mpr ?_⟩
      have := (bef_iff N i x).mp w2
      omega
    · rw [w]; exact ⟨hix, h⟩
  omega
theorem idx_inj {N : Rw} {x k : Nat} (hx : x < 20) (hk : k < 20) (hix : isHd N x = true) (hik : isHd N k = true) (h : idx N x = idx N k) : x = k := by
  rcases Nat.lt_trichotomy x k with q | q | q
  · by_cases z : kz N k < kz N x ∨ kz N x = kz N k
    · have := idx_lt hx hk hix ((bef_iff N x k).mpr (by omega)); omega
    · have := idx_lt hk hx hik ((bef_iff N k x).mpr (by omega)); omega
  · exact q
  · by_cases z : kz N x < kz N k ∨ kz N x = kz N k
    · have := idx_lt hk hx hik ((bef_iff N k x).mpr (by omega)); omega
    · have := idx_lt hx hk hix ((bef_iff N x k).mpr (by omega)); omega
theorem hd_lt20 {N : Rw} {k : Nat} (h : isHd N k = true) : k < 20 := by
  have := ((isHd_iff N k).mp h).1
  simp only [inn, Bool.and_eq_true, decide_eq_true_eq] at this
  exact this.1
theorem idx_ng {N : Rw} {k : Nat} (hik : isHd N k = true) : idx N k < ng N := by
  have hk := hd_lt20 hik
  rw [idx_bef N (by omega)]
  have h1 : cnt (fun y => isHd N y && bef N y k) 20 + 1 ≤ cnt (fun y => (isHd N y && bef N y k) || decide (y = k)) 20 := by
    rw [cnt_or]
    · have : cnt (fun y => decide (y = k)) 20 = 1 := by
        have u := cnt_upd (p := fun _ => false) (q := fun y => decide (y = k)) (n := 20) (j := k) hk (fun i hi => decide_eq_false hi)
        rw [decide_eq_true rfl, b2n_t, b2n_f, cnt_zero (p := fun _ => false) (fun _ _ => rfl)] at u
        omega
      omega
    · intro i hi w
      simp only [Bool.and_eq_true, decide_eq_true_eq] at w
      obtain ⟨⟨w1, w2⟩, w3⟩ := w
      rw [w3, bef_iff] at w2
      omega
  have h2 : cnt (fun y => (isHd N y && bef N y k) || decide (y = k)) 20 ≤ ng N := by
    refine cnt_mono (fun i hi w => ?_)
    simp only [Bool.or_eq_true, Bool.and_eq_true, decide_eq_true_eq] at w
    rcases w with w | w
    · exact w.1
    · rw [w]; exact hik
  omega
theorem idx_few (N : Rw) : ∀ r, cnt (fun y => isHd N y && decide (idx N y < r)) 20 ≤ r := by
  intro r
  induction r with
  | zero =>
    rw [cnt_zero (fun i hi => by rw [decide_eq_false (Nat.not_lt_zero _), Bool.and_false])]
    exact Nat.le_refl _
  | succ r ih =>
    have h1 : cnt (fun y => isHd N y && decide (idx N y < r + 1)) 20 ≤ cnt (fun y => (isHd N y && decide (idx N y < r)) || (isHd N y && decide (idx N y = r))) 20 := by
      refine cnt_mono (fun i hi w => ?_)
      simp only [Bool.or_eq_true, Bool.and_eq_true, decide_eq_true_eq] at w ⊢
      by_cases z : idx N i = r
      · exact Or.inr ⟨w.1, z⟩
      · exact Or.inl ⟨w.1, by omega⟩
    rw [cnt_or] at h1
    · have h2 : cnt (fun y => isHd N y && decide (idx N y = r)) 20 ≤ 1 := cnt_one (fun i j hi hj wi wj => by
        simp only [Bool.and_eq_true, decide_eq_true_eq] at wi wj
        exact idx_inj hi hj wi.1 wj.1 (by omega))
      omega
    · intro i hi w
      simp only [Bool.and_eq_true, decide_eq_true_eq] at w
      omega
theorem idx_sur (N : Rw) {r : Nat} (hr : r < ng N) : ∃ k, isHd N k = true ∧ idx N k = r := by
  have h1 := idx_few N r
  have hex : ∃ k, k < 20 ∧ isHd N k = true ∧ r ≤ idx N k := by
    apply Classical.byContradiction
    intro hno
    have : ng N ≤ cnt (fun y => isHd N y && decide (idx N y < r)) 20 := by
      refine cnt_mono (fun i hi w => ?_)
      simp only [Bool.and_eq_true, decide_eq_true_eq]
      refine ⟨w, ?_⟩
      rcases Nat.lt_or_ge (idx N i) r with z | z
      · exact z
      · exact absurd ⟨i, hi, w, z⟩ hno
    omega
  obtain ⟨m, ⟨k, k1, k2, k3, k4⟩, hmin⟩ := pk_least (fun m => ∃ k, k < 20 ∧ isHd N k = true ∧ r ≤ idx N k ∧ idx N k = m) (by obtain ⟨k, a, b, c⟩ := hex; exact ⟨_, k, a, b, c, rfl⟩)
  refine ⟨k, k2, ?_⟩
  have h2 : idx N k ≤ cnt (fun y => isHd N y && decide (idx N y < r)) 20 := by
    rw [idx_bef N (by omega)]
    refine cnt_mono (fun i hi w => ?_)
    simp only [Bool.and_eq_true, decide_eq_true_eq] at w ⊢
    refine ⟨w.1, ?_⟩
    have h3 := idx_lt hi k1 w.1 w.2
    rcases Nat.lt_or_ge (idx N i) r with z | z
    · exact z
    · exact absurd ⟨i, hi, w.1, z, rfl⟩ (hmin _ (by omega))
  omega
section OR1
variable {σ : Sg} {N : Rw}
theorem s_score {k : Nat} (hk : k < 20) (h1 : σ 87 k = nI (pts N k)) (h2 : σ 92 k = nI (sr N k)) : f_CT_scoreOf (nI k) σ = some (zI (sc N k), σ) := by
  unfold f_CT_scoreOf f_CO_pointsOf
  rw [s_at _ _ _ _ hk (by decide), bd_s, bd_s, h1, s_sumOf hk h2, bd_s, nI_mul, nI_z, nI_z, zI_sub]
  unfold sc
  rw [show ((10 * pts N k : Nat) : Int) = 10 * (pts N k : Int) by omega]
theorem r_setting (h : QS σ N) {k : Nat} (hk : k < 3) : f_ST_setting (nI k) σ = some (nI (stt N k), σ) := by
  unfold f_ST_setting
  rw [s_at _ _ _ _ hk (by decide), bd_s, show σ 11 k = nI (stt N k) from (h.2.2.2.2.2.2.2.2.2.2.2.2.2.1 k hk).trans (h.2.1.2.2.2.2.2.2.2.2.2.2.1 k hk)]
theorem s_keyOf (h : QS σ N) (hc : CAll N σ) (hr : RAll N σ) (hp : PAll N σ) {k : Nat} (hk : isHd N k = true) : f_CT_keyOf (nI k) σ = some (zI (kz N k), σ) := by
  have hk20 := hd_lt20 hk
  have hst := h.2.1.2.2.2.2.2.2.2.2.2.2.2.1
  have h92 : σ 92 k = nI (sr N k) := by rw [hr.2.2 k hk20, if_pos hk]
  have hfl := fin_le N k
  unfold f_CT_keyOf kz
  rw [r_setting h (by decide), bd_s]
  by_cases q : stt N 0 = 1
  · rw [if_pos (by rw [q]), if_pos q]
    unfold f_RO_roundOf
    rw [s_at _ _ _ _ hk20 (by decide), bd_s, bd_s, show σ 96 k = wI (fin' N k) from hp.2.2 k hk20]
    by_cases q2 : fin' N k = 0
    · rw [if_pos ((wI_5 (by omega)).mpr q2), if_pos q2, nI_z]; rfl
    · rw [if_neg (fun z => q2 ((wI_5 (by omega)).mp z)), if_neg q2, wI_s q2, nI_z]
      congr 3
      show ((fin' N k - 1 : Nat) : Int) = _
      omega
  · rw [if_neg (fun z => q ((nI_eq (by omega) (by decide)).mp z)), if_neg q, s_score hk20 (hc.2 k hk20).1 h92, bd_s, r_setting h (by decide), bd_s]
    by_cases q2 : stt N 2 = 0
    · rw [if_pos (by rw [q2]), if_pos q2]
    · rw [if_neg (fun z => q2 ((nI_eq (by omega) (by decide)).mp z)), if_neg q2]
      unfold f_CO_firstsOf
      rw [s_at _ _ _ _ hk20 (by decide), bd_s, bd_s, (hc.2 k hk20).2, lt', s_sumOf hk20 h92, bd_s, lt']
      simp only [nI_z, zI_add, zI_sub, zI_mul]
      rfl
/-- the class's order: which are ordered, keys, places, indexes -/
def OK1 (N : Rw) (x : Sg) : Prop := ∀ k, k < 20 → x 101 k = bI (isHd N k) ∧ (isHd N k = true → x 102 k = zI (kz N k))
noncomputable def pla (N : Rw) (k : Nat) : Nat := 1 + ahc N k
def OAll (N : Rw) (x : Sg) : Prop := OK1 N x ∧ ∀ k, k < 20 → (isHd N k = true → x 103 k = nI (pla N k) ∧ x 104 k = nI (idx N k)) ∧ (isHd N k = false → x 103 k = -5 ∧ x 104 k = -5)
theorem s_fillKeys (h : QS σ N) (hh : HC σ N) (hc : CAll N σ) (hr : RAll N σ) (hp : PAll N σ) : ∃ x, f_CT_fillKeys σ = some (0, x) ∧ Fr [101, 102] σ x ∧ OK1 N x := by
  unfold f_CT_fillKeys f_OR_clearKeys
  refine Exists.elim (lpI (fun n k (x : Sg) => f_OR_clearKeys_2 n (nI k) x) 20 (fun k x => Fr [101, 102] σ x ∧ ∀ j, j < k → x 101 j = nI 0) ?_ 0 FU σ (Nat.zero_le _) (by decide) ⟨Fr.rf _ _, fun j hj => absurd hj (Nat.not_lt_zero _)⟩) ?_
  · intro n k x hk hJ
    obtain ⟨hF, h1⟩ := hJ
    show ∃ y, _ ∧ f_OR_clearKeys_2 (n + 1) (nI k) x = _
    rw [f_OR_clearKeys_2, if_neg (nI_ge hk (by decide)), inb_n hk (by omega), gd_t, lt', nI_clamp (by omega), nI_add]
    refine ⟨_, ⟨hF.up _ _ (by decide), fun j hj => ?_⟩, rfl⟩
    rw [up_s]
    by_cases z : j = k
    · rw [z, upd_s]
    · rw [upd_n _ _ z]; exact h1 j (by omega)
  rintro m ⟨x0, ⟨hF0, h0⟩, heq⟩
  have hq : f_OR_clearKeys_2 (m + 1) (nI 20) x0 = some (0, x0) := by rw [f_OR_clearKeys_2, if_pos (Int32.le_refl _)]
  rw [heq.trans hq, bd_s]
  refine Exists.elim (lpI (fun n k (x : Sg) => f_CT_fillKeys_9 n (nI k) x) 20 (fun k x => Fr [101, 102] σ x ∧ (∀ j, j < k → x 101 j = bI (isHd N j) ∧ (isHd N j = true → x 102 j = zI (kz N j))) ∧ ∀ j, k ≤ j → j < 20 → x 101 j = nI 0) ?_ 0 FU x0 (Nat.zero_le _) (by decide) ⟨hF0, fun j hj => absurd hj (Nat.not_lt_zero _), fun j _ hj => h0 j hj⟩) ?_
  · intro n k x hk hJ
    obtain ⟨hF, h1, h2⟩ := hJ
    show ∃ y, _ ∧ f_CT_fillKeys_9 (n + 1) (nI k) x = _
    rw [f_CT_fillKeys_9, if_neg (nI_ge hk (by decide)), s_isHead (hh.fr hF (by decide)) hk, bd_s, nI_add]
    cases q : isHd N k
    · rw [if_pos (by decide)]
      refine ⟨x, ⟨hF, fun j hj => ?_, fun j hj => h2 j (by omega)⟩, rfl⟩
      by_cases z : j = k
      · rw [z, q, h2 k (Nat.le_refl _) hk]
        exact ⟨rfl, fun w => by cases w⟩
      · exact h1 j (by omega)
    · have hcx : CAll N x := ⟨fun c hc2 => by rw [hF 86 (by decide)]; exact hc.1 c hc2, fun g hg => by rw [hF 87 (by decide), hF 88 (by decide)]; exact hc.2 g hg⟩
      have hrx : RAll N x := ⟨fun j g hj hg => by rw [hF 90 (by decide)]; exact hr.1 j g hj hg, fun j g hj hg hq => by rw [hF 91 (by decide)]; exact hr.2.1 j g hj hg hq, fun g hg => by rw [hF 92 (by decide)]; exact hr.2.2 g hg⟩
      have hpx : PAll N x := ⟨by rw [hF 93 (by decide)]; exact hp.1, fun r hr2 => by rw [hF 97 (by decide), hF 98 (by decide), hF 99 (by decide)]; exact hp.2.1 r hr2, fun k hk2 => by rw [hF 96 (by decide)]; exact hp.2.2 k hk2⟩
      rw [if_neg (by decide), s_keyOf (h.fr hF (by decide)) hcx hrx hpx q, bd_s]
      unfold f_OR_giveKey
      rw [s_idxN _ _ _ (by omega) (by decide), bd_s, decide_eq_true hk, if_neg (by decide), inb_n hk (by omega), gd_t, lt', gd_t, lt', nI_clamp (by omega), bd_s]
      refine ⟨_, ⟨(hF.up _ _ (by decide)).up _ _ (by decide), fun j hj => ?_, fun j hj hj2 => ?_⟩, rfl⟩
      · rw [up_n _ _ _ (by decide), up_s, up_s, up_n _ _ _ (by decide)]
        by_cases z : j = k
        · rw [z, upd_s, upd_s, q]
          exact ⟨rfl, fun _ => rfl⟩
        · rw [upd_n _ _ z, upd_n _ _ z]
          exact h1 j (by omega)
      · rw [up_n _ _ _ (by decide), up_s, upd_n _ _ (by omega)]
        exact h2 j (by omega) hj2
  · rintro m ⟨x, ⟨hF, h1, -⟩, heq⟩
    refine ⟨x, heq.trans ?_, hF, h1⟩
    show f_CT_fillKeys_9 (m + 1) (nI 20) x = _
    rw [f_CT_fillKeys_9, if_pos (Int32.le_refl _)]
theorem s_ahead (ho : OK1 N σ) {k : Nat} (hk : isHd N k = true) : f_OR_groupsAhead (nI k) σ = some (nI (ahc N k), σ) := by
  have hk20 := hd_lt20 hk
  have kb := kz_b N hk20
  unfold f_OR_groupsAhead
  refine lpS (fun n i y => f_OR_groupsAhead_4 n (nI k) (nI y) (nI i) σ) 20 (fun i => b2n (isHd N i && ahd N i k)) (fun y => some (nI y, σ)) ?_ ?_ FU (by decide)
  · intro n i y hi hy
    show f_OR_groupsAhead_4 (n + 1) (nI k) (nI y) (nI i) σ = _
    have ib := kz_b N hi
    rw [f_OR_groupsAhead_4, if_neg (nI_ge hi (by decide)), inb_n hi (by omega), gd_t, gd_t, nI_clamp (by omega), (ho i hi).1, nI_add]
    cases q : isHd N i
    · rw [if_pos (by decide)]; rfl
    · rw [if_neg (by decide), s_at _ _ _ _ hk20 (by decide), bd_s, (ho k hk20).2 hk, (ho i hi).2 q]
      by_cases z : kz N i ≤ kz N k
      · rw [if_pos ((zI_le ib.1 ib.2 kb.1 kb.2).mpr z), show ahd N i k = false from decide_eq_false (by omega)]; rfl
      · rw [if_neg (fun w => z ((zI_le ib.1 ib.2 kb.1 kb.2).mp w)), show ahd N i k = true from decide_eq_true (by omega), nI_add]; rfl
  · intro n
    show f_OR_groupsAhead_4 (n + 1) (nI k) _ (nI 20) σ = _
    rw [f_OR_groupsAhead_4, if_pos (Int32.le_refl _)]
theorem s_tiedBelow (ho : OK1 N σ) {k b : Nat} (hk : isHd N k = true) (hb : b ≤ 20) : f_OR_tiedBelow (nI k) (nI b) σ = some (nI (tdb N k b), σ) := by
  have hk20 := hd_lt20 hk
  have kb := kz_b N hk20
  unfold f_OR_tiedBelow
  refine lpS (fun n i y => f_OR_tiedBelow_5 n (nI k) (nI b) (nI y) (nI i) σ) b (fun i => b2n (isHd N i && decide (kz N i = kz N k))) (fun y => some (nI y, σ)) ?_ ?_ FU (by unfold FU; omega)
  · intro n i y hi hy
    show f_OR_tiedBelow_5 (n + 1) (nI k) (nI b) (nI y) (nI i) σ = _
    have ib := kz_b N (k := i) (by omega)
    rw [f_OR_tiedBelow_5, if_neg (nI_ge (by omega) (by decide)), if_neg (nI_ge hi (by omega)), inb_n (by omega) (by omega), gd_t, gd_t, nI_clamp (by omega), (ho i (by omega)).1, nI_add]
    cases q : isHd N i
    · rw [if_pos (by decide)]; rfl
    · rw [if_neg (by decide), s_at _ _ _ _ hk20 (by decide), bd_s, (ho k hk20).2 hk, (ho i (by omega)).2 q]
      by_cases z : kz N i = kz N k
      · rw [if_pos (by rw [z]), decide_eq_true z, nI_add]; rfl
      · rw [if_neg (fun w => z ((zI_eq ib.1 ib.2 kb.1 kb.2).mp w)), decide_eq_false z]; rfl
  · intro n
    show f_OR_tiedBelow_5 (n + 1) (nI k) (nI b) _ (nI b) σ = _
    rw [f_OR_tiedBelow_5]
    by_cases z : b = 20
    · rw [z, if_pos (Int32.le_refl _)]
    · rw [if_neg (nI_ge (by omega) (by decide)), if_pos (Int32.le_refl _)]
theorem ahc_le (N : Rw) (k : Nat) : ahc N k ≤ 20 := cnt_le _ _
theorem tdb_le (N : Rw) (k b : Nat) : tdb N k b ≤ b := cnt_le _ _
theorem s_orFill (ho : OK1 N σ) : ∃ x, f_OR_fill σ = some (0, x) ∧ Fr [103, 104] σ x ∧ OAll N x := by
  unfold f_OR_fill
  rw [s_fill _ _ _ _ (by decide), bd_s, s_fill _ _ _ _ (by decide), bd_s]
  generalize hx0 : upc (upc σ 103 (fun j => if j < 20 then -5 else σ 103 j)) 104 (fun j => if j < 20 then -5 else upc σ 103 (fun j => if j < 20 then -5 else σ 103 j) 104 j) = x0
  have hF0 : Fr [103, 104] σ x0 := by rw [← hx0]; exact ((Fr.rf _ _).upc _ (by decide)).upc _ (by decide)
  have h3 : ∀ j, j < 20 → x0 103 j = -5 := fun j hj => by rw [← hx0, upc_n _ _ (by decide), upc_s, if_pos hj]
  have h4 : ∀ j, j < 20 → x0 104 j = -5 := fun j hj => by rw [← hx0, upc_s, if_pos hj]
  refine Exists.elim (lpI (fun n k (x : Sg) => f_OR_fill_20 n (nI k) x) 20 (fun k x => Fr [103, 104] σ x ∧ (∀ j, j < 20 → isHd N j = true → j < k → x 103 j = nI (pla N j) ∧ x 104 j = nI (idx N j)) ∧ ∀ j, j < 20 → (isHd N j = false ∨ k ≤ j) → x 103 j = -5 ∧ x 104 j = -5) ?_ 0 FU x0 (Nat.zero_le _) (by decide) ⟨hF0, fun j _ _ hj => absurd hj (Nat.not_lt_zero _), fun j hj _ => ⟨h3 j hj, h4 j hj⟩⟩) ?_
  · intro n k x hk hJ
    obtain ⟨hF, h1, h2⟩ := hJ
    have hox : ∀ {y : Sg}, Fr [103, 104] σ y → OK1 N y := fun {y} hy j hj => by rw [hy 101 (by decide), hy 102 (by decide)]; exact ho j hj
    show ∃ y, _ ∧ f_OR_fill_20 (n + 1) (nI k) x = _
    rw [f_OR_fill_20, if_neg (nI_ge hk (by decide)), inb_n hk (by omega), gd_t, nI_clamp (by omega), (hox hF k hk).1, nI_add]
    cases q : isHd N k
    · rw [if_pos (by decide)]
      refine ⟨x, ⟨hF, fun j hj hj2 hj3 => h1 j hj hj2 (by by_cases z : j = k; rw [z, q] at hj2; cases hj2; omega), fun j hj hj2 => h2 j hj (by by_cases z : j = k; rw [z]; exact Or.inl q; rcases hj2 with w | w; exact Or.inl w; exact Or.inr (by omega))⟩, rfl⟩
    · have ha := ahc_le N k
      rw [if_neg (by decide), s_ahead (hox hF) q, bd_s, gd_t, nI_add, lt', s_tiedBelow (hox (hF.up k (nI (1 + ahc N k)) (by decide))) q (by omega), bd_s, gd_t, nI_add, lt']
      refine ⟨_, ⟨(hF.up _ _ (by decide)).up _ _ (by decide), fun j hj hj2 hj3 => ?_, fun j hj hj2 => ?_⟩, rfl⟩
      · rw [up_n _ _ _ (by decide), up_s, up_s, up_n _ _ _ (by decide)]
        by_cases z : j = k
        · rw [z, upd_s, upd_s]; exact ⟨rfl, rfl⟩
        · rw [upd_n _ _ z, upd_n _ _ z]; exact h1 j hj hj2 (by omega)
      · have hjk : j ≠ k := by
          intro z
          rw [z] at hj2
          rcases hj2 with w | w
          · rw [q] at w; cases w
          · omega
        rw [up_n _ _ _ (by decide), up_s, up_s, up_n _ _ _ (by decide), upd_n _ _ hjk, upd_n _ _ hjk]
        exact h2 j hj (by rcases hj2 with w | w; exact Or.inl w; exact Or.inr (by omega))
  · rintro m ⟨x, ⟨hF, h1, h2⟩, heq⟩
    refine ⟨x, heq.trans ?_, hF, fun j hj => by rw [hF 101 (by decide), hF 102 (by decide)]; exact ho j hj, fun k hk => ⟨fun q => h1 k hk q hk, fun q => h2 k hk (Or.inl q)⟩⟩
    show f_OR_fill_20 (m + 1) (nI 20) x = _
    rw [f_OR_fill_20, if_pos (Int32.le_refl _)]
end OR1
