theorem CI.cur {A : Ab} {σ y : Sg} {N' : Rw} (hA : OKA A) (h : CI A σ) (e : ∀ c, (13 ≤ c ∧ c < 82) ∨ c = 111 → y c = σ c) (hR : RelS (fun k => y k) N') : CI (N', A.2) y := by
  obtain ⟨h1, ⟨h2, T, h3, h4, h5⟩, ⟨h6, h7⟩, h8, h9⟩ := h
  refine ⟨hR, ⟨by rw [e 80 (by omega)]; exact h2, T, fun i hi => by rw [e 81 (by omega)]; exact h3 i hi, h4, fun i hi => RelS.bl (hA.2.1.2 i hi) (h5 i hi) (fun k hk => e _ ?_)⟩, ⟨by rw [e 111 (by omega)]; exact h6, fun hb => RelS.bl (hA.2.2.1 hb) (h7 hb) (fun k hk => e _ (by omega))⟩, by rw [e 78 (by omega)]; exact h8, fun k hk => by rw [e 79 (by omega)]; exact h9 k hk⟩
  have := (h3 i (by have := hA.2.1.1; show i < 4; have : i < A.n := hi; omega)).1
  omega
theorem RI.cur {A : Ab} {σ y : Sg} {N' : Rw} (h : RI A σ) (e : ∀ c, c = 112 ∨ c = 114 ∨ c = 115 ∨ c = 116 → y c = σ c) (hR : ∀ i, i < 1385 → y 113 i = N' i) : RI (N', A.2) y := by
  obtain ⟨h1, ⟨h2, h3⟩, ⟨h4, h5⟩, h6, h7⟩ := h
  exact ⟨hR, ⟨by rw [e 112 (by omega)]; exact h2, fun i j hi hj => by rw [e 115 (by omega)]; exact h3 i j hi hj⟩, ⟨by rw [e 112 (by omega)]; exact h4, fun hb i hi => by rw [e 114 (by omega)]; exact h5 hb i hi⟩, by rw [e 112 (by omega)]; exact h6, fun k hk => by rw [e 116 (by omega)]; exact h7 k hk⟩
/-! the history -/
def hn (n : Nat) : Nat := if n < 4 then n + 1 else 4
def hM (n : Nat) (M : Nat → Rw) (N : Rw) : Nat → Rw := fun i => if n < 4 then (if i = n then N else M i) else if i = 3 then N else M (i + 1)
def Ab.rec' (A : Ab) : Ab := (A.N, (hn A.n, hM A.n A.M A.N), A.2.2)
theorem OKA.rec' {A : Ab} (hA : OKA A) : OKA A.rec' := by
  refine ⟨hA.1, ⟨?_, fun i hi => ?_⟩, hA.2.2⟩
  · show hn A.n ≤ 4
    unfold hn
    by_cases q : A.n < 4
    · rw [if_pos q]; omega
    · rw [if_neg q]; omega
  · have hi : i < hn A.n := hi
    have h4 := hA.2.1.1
    show InvN (hM A.n A.M A.N i)
    unfold hM
    unfold hn at hi
    by_cases q : A.n < 4
    · rw [if_pos q] at hi ⊢
      by_cases z : i = A.n
      · rw [if_pos z]; exact hA.1
      · rw [if_neg z]; exact hA.2.1.2 i (by omega)
    · rw [if_neg q] at hi ⊢
      by_cases z : i = 3
      · rw [if_pos z]; exact hA.1
      · rw [if_neg z]; exact hA.2.1.2 (i + 1) (by omega)
def HF (σ y : Sg) : Prop := ∀ c, c < 26 ∨ c = 78 ∨ c = 79 ∨ 82 ≤ c → y c = σ c
theorem c_rec12 {σ : Sg} {N : Rw} {n : Nat} {M : Nat → Rw} (hN : InvN N) (hR : RelS (fun k => σ k) N) (h : HiC σ n M) (hM : ∀ i, i < n → InvN (M i)) (hn : n < 4) : ∃ y, f_HI_record_12 σ = some (0, y) ∧ HF σ y ∧ HiC y (n + 1) (fun i => if i = n then N else M i) := by
  obtain ⟨h2, T, h3, h4, h5⟩ := h
  obtain ⟨t1, t2⟩ := h3 n hn
  have ht : T n < 78 := by omega
  have hS : isSt (T n) = true := by rcases t1 with e | e | e | e <;> rw [e] <;> decide
  obtain ⟨y, y1, y2, y3⟩ := c_copy (σ := σ) (a0 := T n) (a1 := 0) hN (RelS.bl (t := 0) (x := fun k => σ k) (y := σ) hN (by simpa using hR) (fun k hk => rfl)) (by omega)
  unfold f_HI_record_12
  rw [h2, s_idxN _ _ _ (by omega) (by decide), bd_s, decide_eq_true hn, if_neg (by decide), h2, inb_n hn (by omega), gd_t, nI_clamp (by omega), t2, nI_clamp (by omega), hS, gd_t, y1, bd_s, y2 80 (by omega), h2, nI_add, lt']
  refine ⟨_, rfl, fun c hc => ?_, ⟨by rw [up_s, upd_s], T, fun i hi => ⟨(h3 i hi).1, ?_⟩, h4, fun i hi => ?_⟩⟩
  · rw [up_n _ _ _ (by omega)]; exact y2 c (by omega)
  · rw [up_n _ _ _ (by decide), y2 81 (by omega)]; exact (h3 i hi).2
  · show RelS (fun k => up y 80 1 (nI (n + 1)) (T i + k)) (if i = n then N else M i)
    by_cases z : i = n
    · rw [if_pos z, z]
      exact RelS.bl hN y3 (fun k hk => up_n _ _ _ (by omega))
    · have := (h3 i (by omega)).1
      have hne : T i ≠ T n := fun w => z (h4 i n (by omega) hn w)
      rw [if_neg z]
      exact RelS.bl (hM i (by omega)) (h5 i (by omega)) (fun k hk => by rw [up_n _ _ _ (by omega)]; exact y2 _ (by omega))
theorem c_drop {σ : Sg} {M : Nat → Rw} (h : HiC σ 4 M) (hM : ∀ i, i < 4 → InvN (M i)) : ∃ y, f_HI_dropOldest σ = some (0, y) ∧ (∀ c, c ≠ 80 → c ≠ 81 → y c = σ c) ∧ HiC y 3 (fun i => M (i + 1)) := by
  obtain ⟨h2, T, h3, h4, h5⟩ := h
  have st : ∀ i, i < 4 → isSt (T i) = true := fun i hi => by rcases (h3 i hi).1 with e | e | e | e <;> rw [e] <;> decide
  have lt : ∀ i, i < 4 → T i < 78 := fun i hi => by have := (h3 i hi).1; omega
  have fu : FU = FU - 4 + 1 + 1 + 1 + 1 := by decide
  have step : ∀ n i (x : Sg), 0 < i → i < 4 → x 81 i = nI (T i) → f_HI_dropOldest_9 (n + 1) (nI i) (T 0) x = f_HI_dropOldest_9 n (nI (i + 1)) (T 0) (up x 81 (i - 1) (nI (T i))) := by
    intro n i x hi0 hi e
    have := lt i hi
    rw [f_HI_dropOldest_9, if_neg (nI_ge hi (by decide)), inb_n hi (by omega), gd_t, mI_sub, mI_s (by omega), inb_n (by omega) (by omega), gd_t, nI_clamp (by omega), e, nI_clamp (by omega), st i hi, gd_t, nI_clamp (by omega), lt', nI_add]
    rfl
  have l0 := lt 0 (by decide)
  unfold f_HI_dropOldest
  rw [inb_n (by decide) (by decide), gd_t, nI_clamp (by decide), (h3 0 (by decide)).2, nI_clamp (by omega), lt', fu]
  rw [step _ 1 _ (by decide) (by decide) (h3 1 (by decide)).2]
  rw [step _ 2 _ (by decide) (by decide) (by rw [up_s, upd_n _ _ (by decide)]; exact (h3 2 (by decide)).2)]
  rw [step _ 3 _ (by decide) (by decide) (by rw [up_s, upd_n _ _ (by decide), up_s, upd_n _ _ (by decide)]; exact (h3 3 (by decide)).2)]
  rw [f_HI_dropOldest_9, if_pos (Int32.le_refl _), inb_n (by decide) (by decide), gd_t, st 0 (by decide), gd_t, nI_clamp (by decide), lt', lt']
  refine ⟨_, rfl, fun c hc hc2 => ?_, ⟨by rw [up_s, upd_s], fun i => T ((i + 1) % 4), fun i hi => ⟨(h3 _ (by omega)).1, ?_⟩, fun i j hi hj w => ?_, fun i hi => ?_⟩⟩
  · rw [up_n _ _ _ hc, up_n _ _ _ hc2, up_n _ _ _ hc2, up_n _ _ _ hc2, up_n _ _ _ hc2]
  · rw [up_n _ _ _ (by decide), up_s, up_s, up_s, up_s]
    rcases (by omega : i = 0 ∨ i = 1 ∨ i = 2 ∨ i = 3) with e | e | e | e
    · rw [e]; rfl
    · rw [e]; rfl
    · rw [e]; rfl
    · rw [e]; rfl
  · have := h4 _ _ (Nat.mod_lt (i + 1) (by decide)) (Nat.mod_lt (j + 1) (by decide)) w
    omega
  · have e : (i + 1) % 4 = i + 1 := by omega
    have := (h3 ((i + 1) % 4) (by omega)).1
    exact RelS.bl (t := T ((i + 1) % 4)) (x := σ) (hM (i + 1) (by omega)) (by rw [e]; exact h5 (i + 1) (by omega)) (fun k hk => by
      rw [up_n _ _ _ (by omega), up_n _ _ _ (by omega), up_n _ _ _ (by omega), up_n _ _ _ (by omega), up_n _ _ _ (by omega)])
theorem c_record {A : Ab} {σ : Sg} (hA : OKA A) (h : CI A σ) : ∃ y, f_HI_record σ = some (0, y) ∧ HF σ y ∧ CI A.rec' y := by
  have key : ∃ y, f_HI_record σ = some (0, y) ∧ HF σ y ∧ HiC y (hn A.n) (hM A.n A.M A.N) := by
    have h4 := hA.2.1.1
    unfold f_HI_record
    rw [h.2.1.1]
    by_cases q : A.n < 4
    · rw [if_pos ((nI_ltI (by omega) (by decide)).mpr q)]
      obtain ⟨y, y1, y2, y3⟩ := c_rec12 hA.1 h.1 h.2.1 hA.2.1.2 q
      refine ⟨y, y1, y2, ?_⟩
      rw [show hn A.n = A.n + 1 from if_pos q, show hM A.n A.M A.N = fun i => if i = A.n then A.N else A.M i from by unfold hM; funext i; rw [if_pos q]]
      exact y3
    · have e4 : A.n = 4 := by omega
      have hh := h.2.1
      have hm := hA.2.1.2
      rw [e4] at hh hm
      rw [if_neg (fun w => q ((nI_ltI (by omega) (by decide)).mp w))]
      obtain ⟨x, x1, x2, x3⟩ := c_drop hh hm
      rw [x1, bd_s]
      obtain ⟨y, y1, y2, y3⟩ := c_rec12 (σ := x) hA.1 (QS.fr (L := [80, 81]) (σ := σ) ⟨trivial, hA.1, h.1⟩ (fun c hc => x2 c (fun w => hc (by rw [w]; decide)) (fun w => hc (by rw [w]; decide))) (by decide)).2.2 x3 (fun i hi => hm (i + 1) (by omega)) (by decide)
      refine ⟨y, y1, fun c hc => (y2 c hc).trans (x2 c (by omega) (by omega)), ?_⟩
      rw [show hn A.n = 3 + 1 from if_neg q, show hM A.n A.M A.N = fun i => if i = 3 then A.N else A.M (i + 1) from by unfold hM; funext i; rw [if_neg q]]
      exact y3
  obtain ⟨y, y1, y2, y3⟩ := key
  refine ⟨y, y1, y2, RelS.cong h.1 (fun k i hk _ => by rw [y2 k (by omega)]) hA.1.1.2 (fun c hc => (hA.1.2.2.2.1 c hc).2) (fun c hc => hA.1.cl hc), y3, ⟨by rw [y2 111 (by omega)]; exact h.2.2.1.1, fun hb => RelS.bl (hA.2.2.1 hb) (h.2.2.1.2 hb) (fun k hk => y2 _ (by omega))⟩, by rw [y2 78 (by omega)]; exact h.2.2.2.1, fun k hk => by rw [y2 79 (by omega)]; exact h.2.2.2.2 k hk⟩
theorem m_rec51 {σ : Sg} {N : Rw} {n : Nat} {M : Nat → Rw} (h1 : ∀ i, i < 1385 → σ 113 i = N i) (h : HiM σ n M) (hn : n < 4) : ∃ y, f_MO_record_51 FU (nI 0) σ = some (0, y) ∧ Fr [112, 115] σ y ∧ (∀ i, i ≠ 4 → y 112 i = σ 112 i) ∧ HiM y (n + 1) (fun i => if i = n then N else M i) := by
  obtain ⟨h2, h3⟩ := h
  refine Exists.elim (lpI (fun n' i (x : Sg) => f_MO_record_51 n' (nI i) x) 1385 (fun i x => Fr [115] σ x ∧ ∀ j, j < 5540 → x 115 j = if 1385 * n ≤ j ∧ j < 1385 * n + i then N (j - 1385 * n) else σ 115 j) ?_ 0 FU σ (Nat.zero_le _) (by decide) ⟨Fr.rf _ _, fun j hj => (if_neg (by omega)).symm⟩) ?_
  · intro n' i x hi hI
    obtain ⟨hF, hJ⟩ := hI
    show ∃ y, _ ∧ f_MO_record_51 (n' + 1) (nI i) x = _
    rw [f_MO_record_51, if_neg (nI_ge hi (by decide)), inb_n hi (by omega), gd_t, hF 112 (by decide), h2, nI_mul, nI_add, inb_n (by omega) (by omega), gd_t, nI_clamp (by omega), nI_clamp (by omega), hF 113 (by decide), h1 i hi, lt', nI_add]
    refine ⟨_, ⟨hF.up _ _ (by decide), fun j hj => ?_⟩, rfl⟩
    rw [up_s]
    by_cases z : j = 1385 * n + i
    · rw [z, upd_s, if_pos (by omega)]
      congr 1; omega
    · rw [upd_n _ _ z, hJ j hj]
      by_cases w : 1385 * n ≤ j ∧ j < 1385 * n + i
      · rw [if_pos w, if_pos (by omega)]
      · rw [if_neg w, if_neg (by omega)]
  · rintro m ⟨x, ⟨hF, hJ⟩, heq⟩
    refine ⟨up x 112 4 (nI (n + 1)), heq.trans ?_, (hF.mono (by decide)).up _ _ (by decide), fun i hi => by rw [up_s, upd_n _ _ hi, hF 112 (by decide)], by rw [up_s, upd_s], fun i j hi hj => ?_⟩
    · show f_MO_record_51 (m + 1) (nI 1385) x = _
      rw [f_MO_record_51, if_pos (Int32.le_refl _), hF 112 (by decide), h2, nI_add, lt']
    · rw [up_n _ _ _ (by decide), hJ _ (by omega)]
      show _ = (if i = n then N else M i) j
      by_cases z : i = n
      · rw [if_pos z, if_pos (by rw [z]; omega), z]
        congr 1; omega
      · rw [if_neg z, if_neg (by omega)]
        exact h3 i j (by omega) hj
theorem m_record {A : Ab} {σ : Sg} (hA : OKA A) (h : RI A σ) : ∃ y, f_MO_record σ = some (0, y) ∧ Fr [112, 115] σ y ∧ (∀ i, i ≠ 4 → y 112 i = σ 112 i) ∧ RI A.rec' y := by
  have key : ∃ y, f_MO_record σ = some (0, y) ∧ Fr [112, 115] σ y ∧ (∀ i, i ≠ 4 → y 112 i = σ 112 i) ∧ HiM y (hn A.n) (hM A.n A.M A.N) := by
    have h4 := hA.2.1.1
    unfold f_MO_record
    rw [h.2.1.1]
    by_cases q : A.n < 4
    · rw [if_neg (fun w => by have := (nI_eq (by omega) (by decide)).mp w; omega)]
      obtain ⟨y, y1, y2, y3, y4⟩ := m_rec51 h.1 h.2.1 q
      refine ⟨y, y1, y2, y3, ?_⟩
      rw [show hn A.n = A.n + 1 from if_pos q, show hM A.n A.M A.N = fun i => if i = A.n then A.N else A.M i from by unfold hM; funext i; rw [if_pos q]]
      exact y4
    · have e4 : A.n = 4 := by omega
      have hh := h.2.1
      rw [e4] at hh
      rw [if_pos (by rw [e4])]
      have mid : ∃ x, f_MO_record_10 FU (nI 0) σ = f_MO_record_51 FU (nI 0) x ∧ Fr [112, 115] σ x ∧ (∀ i, i ≠ 4 → x 112 i = σ 112 i) ∧ HiM x 3 (fun i => A.M (i + 1)) := by
        refine Exists.elim (lpI (fun n' i (x : Sg) => f_MO_record_10 n' (nI i) x) 4155 (fun i x => Fr [115] σ x ∧ ∀ j, j < 5540 → x 115 j = if j < i then σ 115 (j + 1385) else σ 115 j) ?_ 0 FU σ (Nat.zero_le _) (by decide) ⟨Fr.rf _ _, fun j hj => (if_neg (by omega)).symm⟩) ?_
        · intro n' i x hi hI
          obtain ⟨hF, hJ⟩ := hI
          show ∃ y, _ ∧ f_MO_record_10 (n' + 1) (nI i) x = _
          rw [f_MO_record_10, if_neg (nI_ge hi (by decide)), nI_add, inb_n (by omega) (by omega), gd_t, inb_n (by omega) (by omega), gd_t, nI_clamp (by omega), nI_clamp (by omega), hJ (i + 1385) (by omega), if_neg (by omega), lt', nI_add]
          refine ⟨_, ⟨hF.up _ _ (by decide), fun j hj => ?_⟩, rfl⟩
          rw [up_s]
          by_cases z : j = i
          · rw [z, upd_s, if_pos (by omega)]
          · rw [upd_n _ _ z, hJ j hj]
            by_cases w : j < i
            · rw [if_pos w, if_pos (by omega)]
            · rw [if_neg w, if_neg (by omega)]
        · rintro m ⟨x, ⟨hF, hJ⟩, heq⟩
          refine ⟨up x 112 4 (nI 3), heq.trans ?_, (hF.mono (by decide)).up _ _ (by decide), fun i hi => by rw [up_s, upd_n _ _ hi, hF 112 (by decide)], by rw [up_s, upd_s], fun i j hi hj => ?_⟩
          · show f_MO_record_10 (m + 1) (nI 4155) x = _
            rw [f_MO_record_10, if_pos (Int32.le_refl _), hF 112 (by decide), hh.1, mI_sub, mI_s (by decide), lt']
          · rw [up_n _ _ _ (by decide), hJ _ (by omega), if_pos (by omega), show 1385 * i + j + 1385 = 1385 * (i + 1) + j by omega]
            exact hh.2 (i + 1) j (by omega) hj
      obtain ⟨x, x1, x2, x3, x4⟩ := mid
      obtain ⟨y, y1, y2, y3, y4⟩ := m_rec51 (σ := x) (N := A.N) (fun i hi => by rw [x2 113 (by decide)]; exact h.1 i hi) x4 (by decide)
      refine ⟨y, x1.trans y1, x2.tr y2, fun i hi => (y3 i hi).trans (x3 i hi), ?_⟩
      rw [show hn A.n = 3 + 1 from if_neg q, show hM A.n A.M A.N = fun i => if i = 3 then A.N else A.M (i + 1) from by unfold hM; funext i; rw [if_neg q]]
      exact y4
  obtain ⟨y, y1, y2, y3, y4⟩ := key
  exact ⟨y, y1, y2, y3, fun i hi => by rw [y2 113 (by decide)]; exact h.1 i hi, y4, ⟨by rw [y3 6 (by decide)]; exact h.2.2.1.1, fun hb i hi => by rw [y2 114 (by decide)]; exact h.2.2.1.2 hb i hi⟩, by rw [y3 5 (by decide)]; exact h.2.2.2.1, fun k hk => by rw [y2 116 (by decide)]; exact h.2.2.2.2 k hk⟩
