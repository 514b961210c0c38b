/-! the reference's heads: lowered until nothing is left to lower -/
def MI (N : Rw) (x : Sg) : Prop := (∀ c, c < 20 → inn N c = true → ∃ d, x 117 c = nI d ∧ d ≤ c ∧ inn N d = true ∧ conn N c d) ∧ ∀ c, c < 20 → inn N c = false → x 117 c = -1
def msr (x : Sg) : Nat := sm (fun c => vN (x 117 c)) 20
def PI (N : Rw) (x0 : Sg) (a b : Nat) (y : Bool × Sg) : Prop := MI N y.2 ∧ Fr [117] x0 y.2 ∧
  ((y.1 = false ∧ y.2 = x0 ∧ ∀ p q, q < p → (p < a ∨ (p = a ∧ q < b)) → inn N p = true → inn N q = true → tie N p q = true → x0 117 p = x0 117 q) ∨ (y.1 = true ∧ msr y.2 < msr x0))
theorem vN_nI {d : Nat} (h : d < 2147483648) : vN (nI d) = d := nI_clamp h
theorem sm_two {p : Nat → Nat} {n a b lo : Nat} (ha : a < n) (hb : b < n) (hab : a ≠ b) : sm (fun c => if c = b then lo else if c = a then lo else p c) n + p a + p b = sm p n + lo + lo := by
  have u1 := sm_upd (p := p) (q := fun c => if c = a then lo else p c) (n := n) (j := a) ha (fun j hj => if_neg hj)
  have u2 := sm_upd (p := fun c => if c = a then lo else p c) (q := fun c => if c = b then lo else if c = a then lo else p c) (n := n) (j := b) hb (fun j hj => if_neg hj)
  rw [if_pos rfl] at u1
  rw [if_pos rfl, if_neg (Ne.symm hab)] at u2
  omega
section MH
variable {σ : Sg} {N : Rw}
theorem m_low (hN : InvN N) {x0 x : Sg} {a b b' : Nat} (hba : b < a) (ha : a < 20) (hia : inn N a = true) (hib : inn N b = true) (ht : tie N a b = true) {m : Bool} (hP : PI N x0 a b (m, x)) (hne : x 117 a ≠ x 117 b) (K : Int32 → Int32 → Int32 → Sg → Option (Int32 × Sg)) :
    ∃ x', PI N x0 a b' (true, x') ∧ f_MO_heads_118 K (nI a) (nI b) x = K (nI 1) (nI a) (nI (b + 1)) x' := by
  obtain ⟨hM, hF, hor⟩ := hP
  dsimp only at hM hF hor
  obtain ⟨da, e1, e2, e3, e4⟩ := hM.1 a ha hia
  obtain ⟨db, f1, f2, f3, f4⟩ := hM.1 b (by omega) hib
  have hne2 : da ≠ db := fun z => hne (by rw [e1, f1, z])
  have hle : msr x ≤ msr x0 := by
    rcases hor with ⟨-, w, -⟩ | ⟨-, w⟩
    · rw [w]; exact Nat.le_refl _
    · omega
  have main : ∀ lo, lo = min da db → ∃ x', PI N x0 a b' (true, x') ∧ f_MO_heads_148 K (nI a) (nI b) (nI lo) x = K (nI 1) (nI a) (nI (b + 1)) x' := by
    intro lo hlo
    unfold f_MO_heads_148
    simp (disch := omega) only [nI_leI, nI_ltI, nI_eq, nI_add, nI_mul, inb_n, nI_clamp, ne5a, ne1a, gd_t]
    have v : ∀ c, up (up x 117 a (nI lo)) 117 b (nI lo) 117 c = if c = b then nI lo else if c = a then nI lo else x 117 c := by
      intro c
      rw [up_s, up_s]
      rfl
    refine ⟨up (up x 117 a (nI lo)) 117 b (nI lo), ⟨⟨fun c hc hi => ?_, fun c hc hi => ?_⟩, (hF.up _ _ (by decide)).up _ _ (by decide), Or.inr ⟨rfl, ?_⟩⟩, rfl⟩
    · dsimp only
      rw [v]
      have hab : conn N a b := (conn.rf N a).st hib ht
      have hba2 : conn N b a := (conn.rf N b).st hia (tie_sy hN ha (by omega) ht)
      by_cases z : c = b
      · rw [if_pos z, z]
        rcases Nat.le_total da db with w | w
        · rw [hlo, Nat.min_eq_left w]
          exact ⟨da, rfl, by omega, e3, hba2.tr e4⟩
        · rw [hlo, Nat.min_eq_right w]
          exact ⟨db, rfl, f2, f3, f4⟩
      · rw [if_neg z]
        by_cases z2 : c = a
        · rw [if_pos z2, z2]
          rcases Nat.le_total da db with w | w
          · rw [hlo, Nat.min_eq_left w]
            exact ⟨da, rfl, e2, e3, e4⟩
          · rw [hlo, Nat.min_eq_right w]
            exact ⟨db, rfl, by omega, f3, hab.tr f4⟩
        · rw [if_neg z2]
          exact hM.1 c hc hi
    · dsimp only
      rw [v, if_neg (fun z => by rw [z, hib] at hi; cases hi), if_neg (fun z => by rw [z, hia] at hi; cases hi)]
      exact hM.2 c hc hi
    · have u := sm_two (p := fun c => vN (x 117 c)) (n := 20) (a := a) (b := b) (lo := lo) ha (by omega) (by omega)
      have w : msr (up (up x 117 a (nI lo)) 117 b (nI lo)) = sm (fun c => if c = b then lo else if c = a then lo else vN (x 117 c)) 20 := by
        unfold msr
        refine sm_cong (fun c hc => ?_)
        rw [v]
        by_cases z : c = b
        · rw [if_pos z, if_pos z, vN_nI (by omega)]
        · rw [if_neg z, if_neg z]
          by_cases z2 : c = a
          · rw [if_pos z2, if_pos z2, vN_nI (by omega)]
          · rw [if_neg z2, if_neg z2]
      rw [e1, f1, vN_nI (by omega), vN_nI (by omega)] at u
      show msr (up (up x 117 a (nI lo)) 117 b (nI lo)) < msr x0
      rw [w]
      unfold msr at hle ⊢
      omega
  unfold f_MO_heads_118
  rw [inb_n ha (by omega), gd_t, inb_n (a := b) (by omega) (by omega), gd_t, gd_t, gd_t, nI_clamp (by omega), nI_clamp (by omega), e1, f1]
  by_cases z : db ≤ da
  · rw [if_pos ((nI_leI (by omega) (by omega)).mpr z)]
    exact main db (Nat.min_eq_right z).symm
  · rw [if_neg (by rw [nI_leI (by omega) (by omega)]; exact z)]
    exact main da (Nat.min_eq_left (by omega)).symm
theorem m_pass_in (h : MR σ N) (hk : CoreOK σ N) {x0 : Sg} (h0 : Fr [117] σ x0) {a : Nat} (ha : a < ev N) (K : Int32 → Int32 → Sg → Option (Int32 × Sg)) {y : Bool × Sg} (hP : PI N x0 a 0 y) :
    ∃ y', PI N x0 (a + 1) 0 y' ∧ f_MO_heads_64 K FU (bI y.1) (nI a) (nI 0) y.2 = K (bI y'.1) (nI (a + 1)) y'.2 := by
  have hE := h.2.1.2
  refine Exists.elim (lpI (fun n b (z : Bool × Sg) => f_MO_heads_64 K n (bI z.1) (nI a) (nI b) z.2) a (fun b z => PI N x0 a b z) ?_ 0 FU y (Nat.zero_le _) (by unfold FU; omega) hP) ?_
  · intro n b z hb hQ
    obtain ⟨m, x⟩ := z
    have hF : Fr [117] σ x := h0.tr hQ.2.1
    have hm := h.fr hF (by decide)
    have hkx := hk.fr hF (by decide)
    show ∃ y, _ ∧ f_MO_heads_64 K (n + 1) (bI m) (nI a) (nI b) x = _
    rw [f_MO_heads_64, if_neg (nI_ge hb (by omega)), m_isN hm (by omega), bd_s]
    have skip : (inn N a = false ∨ inn N b = false ∨ tie N a b = false ∨ x 117 a = x 117 b) → PI N x0 a (b + 1) (m, x) := by
      intro q
      refine ⟨hQ.1, hQ.2.1, ?_⟩
      rcases hQ.2.2 with ⟨w1, w2, w3⟩ | w
      · refine Or.inl ⟨w1, w2, fun p r hr hp hip hir htp => ?_⟩
        by_cases z : p = a ∧ r = b
        · obtain ⟨z1, z2⟩ := z
          subst z1; subst z2
          rcases q with q | q | q | q
          · rw [q] at hip; cases hip
          · rw [q] at hir; cases hir
          · rw [q] at htp; cases htp
          · have w2' : x = x0 := w2
            rw [← w2']; exact q
        · exact w3 p r hr (by omega) hip hir htp
      · exact Or.inr w
    cases qa : inn N a
    · rw [if_pos (by decide), nI_add]
      exact ⟨(m, x), skip (Or.inl qa), rfl⟩
    rw [if_neg (by decide), m_isN hm (by omega), bd_s]
    cases qb : inn N b
    · rw [if_pos (by decide), nI_add]
      exact ⟨(m, x), skip (Or.inr (Or.inl qb)), rfl⟩
    rw [if_neg (by decide), inb_n (by omega) (by omega), gd_t, inb_n (a := b) (by omega) (by omega), gd_t, nI_clamp (by omega), nI_clamp (by omega)]
    by_cases e : x 117 a = x 117 b
    · rw [if_pos e, nI_add]
      exact ⟨(m, x), skip (Or.inr (Or.inr (Or.inr e))), rfl⟩
    rw [if_neg e, m_linked hm (by omega) (by omega), bd_s]
    cases ql : lkd N a b
    · rw [if_pos (by decide), m_alike h.2 hkx (by omega) (by omega), bd_s]
      cases qk : alk N a b
      · rw [if_pos (by decide), nI_add]
        exact ⟨(m, x), skip (Or.inr (Or.inr (Or.inl (by unfold tie; rw [ql, qk]; rfl)))), rfl⟩
      · rw [if_neg (by decide)]
        obtain ⟨x', k1, k2⟩ := m_low (b' := b + 1) h.2 hb (by omega) qa qb (by unfold tie; rw [ql, qk]; rfl) hQ e (fun x1 x2 x3 σ => f_MO_heads_64 K n x1 x2 x3 σ)
        exact ⟨(true, x'), k1, k2⟩
    · rw [if_neg (by decide)]
      obtain ⟨x', k1, k2⟩ := m_low (b' := b + 1) h.2 hb (by omega) qa qb (by unfold tie; rw [ql]; rfl) hQ e (fun x1 x2 x3 σ => f_MO_heads_64 K n x1 x2 x3 σ)
      exact ⟨(true, x'), k1, k2⟩
  · rintro m ⟨z, hQ, heq⟩
    refine ⟨z, ⟨hQ.1, hQ.2.1, ?_⟩, heq.trans ?_⟩
    · rcases hQ.2.2 with ⟨w1, w2, w3⟩ | w
      · exact Or.inl ⟨w1, w2, fun p q hq hp => w3 p q hq (by omega)⟩
      · exact Or.inr w
    · show f_MO_heads_64 K (m + 1) (bI z.1) (nI a) (nI a) z.2 = _
      rw [f_MO_heads_64, if_pos (Int32.le_refl _), nI_add]
theorem m_pass (h : MR σ N) (hk : CoreOK σ N) {x0 : Sg} (h0 : Fr [117] σ x0) (hM : MI N x0) (K : Int32 → Sg → Option (Int32 × Sg)) :
    ∃ y', PI N x0 (ev N) 0 y' ∧ f_MO_heads_52 K FU (nI 0) (nI 0) x0 = K (bI y'.1) y'.2 := by
  have hE := h.2.1.2
  refine Exists.elim (lpI (fun n a (z : Bool × Sg) => f_MO_heads_52 K n (bI z.1) (nI a) z.2) (ev N) (fun a z => PI N x0 a 0 z) ?_ 0 FU (false, x0) (Nat.zero_le _) (by unfold FU; omega) ⟨hM, Fr.rf _ _, Or.inl ⟨rfl, rfl, fun p q hq hp => by omega⟩⟩) ?_
  · intro n a z ha hQ
    have hF : Fr [117] σ z.2 := h0.tr hQ.2.1
    have hm := h.fr hF (by decide)
    show ∃ y, _ ∧ f_MO_heads_52 K (n + 1) (bI z.1) (nI a) z.2 = _
    rw [f_MO_heads_52, inb_n (by decide) (by decide), gd_t, nI_clamp (by decide), m_ev hm, if_neg (nI_ge ha (by omega))]
    exact m_pass_in h hk h0 ha _ hQ
  · rintro m ⟨z, hQ, heq⟩
    have hF : Fr [117] σ z.2 := h0.tr hQ.2.1
    have hm := h.fr hF (by decide)
    refine ⟨z, hQ, heq.trans ?_⟩
    show f_MO_heads_52 K (m + 1) (bI z.1) (nI (ev N)) z.2 = _
    rw [f_MO_heads_52, inb_n (by decide) (by decide), gd_t, nI_clamp (by decide), m_ev hm, if_pos (Int32.le_refl _)]
theorem m_while (h : MR σ N) (hk : CoreOK σ N) : ∀ (M n : Nat) (x : Sg), Fr [117] σ x → MI N x → msr x ≤ M → M + 1 < n →
    ∃ y, Fr [117] σ y ∧ MI N y ∧ (∀ p q, q < p → inn N p = true → inn N q = true → tie N p q = true → y 117 p = y 117 q) ∧ f_MO_heads_44 n (nI 1) x = f_MO_heads_185 FU (nI 0) y := by
  intro M
  induction M with
  | zero =>
    intro n x hF hM hm hn
    obtain ⟨n, rfl⟩ : ∃ z, n = z + 2 := ⟨n - 2, by omega⟩
    rw [f_MO_heads_44, if_neg (by decide)]
    obtain ⟨⟨m, y⟩, hQ, heq⟩ := m_pass h hk hF hM (fun x1 σ => f_MO_heads_44 (n + 1) x1 σ)
    rcases hQ.2.2 with ⟨w1, w2, w3⟩ | ⟨w1, w2⟩
    · dsimp only at w1 w2
      refine ⟨x, hF, hM, fun p q hq hp => w3 p q hq (Or.inl (h.2.in_lt hp).2) hp, heq.trans ?_⟩
      dsimp only
      rw [w1, w2]
      show f_MO_heads_44 (n + 1) (nI 0) x = _
      rw [f_MO_heads_44, if_pos rfl]
    · dsimp only at w2; omega
  | succ M ih =>
    intro n x hF hM hm hn
    obtain ⟨n, rfl⟩ : ∃ z, n = z + 2 := ⟨n - 2, by omega⟩
    rw [f_MO_heads_44, if_neg (by decide)]
    obtain ⟨⟨m, y⟩, hQ, heq⟩ := m_pass h hk hF hM (fun x1 σ => f_MO_heads_44 (n + 1) x1 σ)
    rcases hQ.2.2 with ⟨w1, w2, w3⟩ | ⟨w1, w2⟩
    · dsimp only at w1 w2
      refine ⟨x, hF, hM, fun p q hq hp => w3 p q hq (Or.inl (h.2.in_lt hp).2) hp, heq.trans ?_⟩
      dsimp only
      rw [w1, w2]
      show f_MO_heads_44 (n + 1) (nI 0) x = _
      rw [f_MO_heads_44, if_pos rfl]
    · dsimp only at w1 w2
      obtain ⟨z, k1, k2, k3, k4⟩ := ih (n + 1) y (hF.tr hQ.2.1) hQ.1 (by omega) (by omega)
      refine ⟨z, k1, k2, k3, heq.trans ?_⟩
      dsimp only
      rw [w1]
      exact k4
theorem m_heads (h : MR σ N) : ∃ x, f_MO_heads σ = some (0, x) ∧ Fr [112, 117, 129, 130] σ x ∧ (∀ c, c < 20 → x 117 c = hdm N c) ∧ x 112 23 = nI (ng N) ∧ (∀ i, i ≠ 23 → x 112 i = σ 112 i) ∧ CoreOK x N := by
  have hE := h.2.1.2
  unfold f_MO_heads
  obtain ⟨σ1, e1, hF1, hk1⟩ := m_takes h
  rw [e1, bd_s, lt']
  have hF2 : Fr [112, 129, 130] σ (up σ1 112 23 (nI 0)) := (hF1.mono (by decide)).up _ _ (by decide)
  have hk2 : CoreOK (up σ1 112 23 (nI 0)) N := hk1.fr (L := [112]) ((Fr.rf _ _).up _ _ (by decide)) (by decide)
  have h23 : up σ1 112 23 (nI 0) 112 23 = nI 0 := by rw [up_s, upd_s]
  have hoth : ∀ i, i ≠ 23 → up σ1 112 23 (nI 0) 112 i = σ 112 i := fun i hi => by rw [up_s, upd_n _ _ hi, hF1 112 (by decide)]
  generalize up σ1 112 23 (nI 0) = σ2 at hF2 hk2 h23 hoth ⊢
  have hm2 := h.fr hF2 (by decide)
  -- the first filling
  refine Exists.elim (lpI (fun n c (x : Sg) => f_MO_heads_11 n (nI c) x) 20 (fun i x => Fr [117] σ2 x ∧ ∀ c, c < i → x 117 c = if inn N c = true then nI c else -1) ?_ 0 FU σ2 (Nat.zero_le _) (by decide) ⟨Fr.rf _ _, fun c hc => absurd hc (Nat.not_lt_zero _)⟩) ?_
  · intro n i x hi hJ
    obtain ⟨hF, hJ⟩ := hJ
    have hm := hm2.fr hF (by decide)
    show ∃ y, _ ∧ f_MO_heads_11 (n + 1) (nI i) x = _
    rw [f_MO_heads_11, if_neg (nI_ge hi (by decide)), m_isN hm hi, bd_s]
    have put : ∀ v : Int32, v = (if inn N i = true then nI i else -1) → ∃ y, (Fr [117] σ2 y ∧ ∀ c, c < i + 1 → y 117 c = if inn N c = true then nI c else -1) ∧ f_MO_heads_35 (fun x1 σ => f_MO_heads_11 n x1 σ) (nI i) v (nI i) x = f_MO_heads_11 n (nI (i + 1)) y := by
      intro v hv
      unfold f_MO_heads_35
      rw [inb_n hi (by omega), gd_t, lt', nI_clamp (by omega), nI_add]
      refine ⟨up x 117 i v, ⟨hF.up _ _ (by decide), fun c hc => ?_⟩, rfl⟩
      rw [up_s]
      by_cases z : c = i
      · rw [z, upd_s, hv]
      · rw [upd_n _ _ z]; exact hJ c (by omega)
    cases q : inn N i
    · rw [if_pos (by decide)]
      exact put _ (by rw [q]; rfl)
    · rw [if_neg (by decide)]
      exact put _ (by rw [q]; rfl)
  · rintro m ⟨x, ⟨hF, hJ⟩, heq⟩
    have hMI : MI N x := by
      refine ⟨fun c hc hi => ⟨c, by rw [hJ c hc, if_pos hi], Nat.le_refl _, hi, conn.rf N c⟩, fun c hc hi => by rw [hJ c hc, if_neg (by rw [hi]; decide)]⟩
    have hms : msr x ≤ 20 * 20 := by
      unfold msr
      refine sm_le (fun c hc => ?_)
      rw [hJ c hc]
      by_cases q : inn N c = true
      · rw [if_pos q, vN_nI (by omega)]; omega
      · rw [if_neg q]; decide
    obtain ⟨y, k1, k2, k3, k4⟩ := m_while hm2 hk2 400 FU x hF hMI hms (by decide)
    have hdy : ∀ c, c < 20 → y 117 c = hdm N c := by
      intro c hc
      unfold hdm
      by_cases q : inn N c = true
      · rw [if_pos q]
        obtain ⟨d, e, -⟩ := k2.1 c hc q
        have hv : ∀ b, inn N b = true → ∃ d, y 117 b = nI d ∧ vN (y 117 b) = d ∧ d ≤ b ∧ inn N d = true ∧ conn N b d := by
          intro b hb
          obtain ⟨d, e1, e2, e3, e4⟩ := k2.1 b (h.2.in_lt hb).1 hb
          exact ⟨d, e1, by rw [e1, vN_nI (by have := (h.2.in_lt hb).1; omega)], e2, e3, e4⟩
        have := hd_one (h := fun b => vN (y 117 b)) h.2 (fun b hb => by
          obtain ⟨d, e1, e2, e3, e4, e5⟩ := hv b hb
          rw [e2]
          exact ⟨e3, e4, e5⟩) (fun a b ha hb ht => by
          rcases Nat.lt_trichotomy a b with w | w | w
          · rw [k3 b a w hb ha (tie_sy h.2 (h.2.in_lt ha).1 (h.2.in_lt hb).1 ht)]
          · rw [w]
          · rw [k3 a b w ha hb ht]) q
        obtain ⟨d, e1, e2, -⟩ := hv c q
        rw [e1]
        rw [e2] at this
        rw [this]
      · rw [if_neg q]
        exact k2.2 c hc (by simpa using q)
    -- the count
    have hc0 : ∀ a, isHd N a = true → a < ev N := fun a ha => (h.2.in_lt ((isHd_iff N a).mp ha).1).2
    have hng : cnt (isHd N) (ev N) = ng N := (sm_out hE (fun i h1 h2 => by
      have : isHd N i = false := by
        cases w : isHd N i
        · rfl
        · have := hc0 i w; omega
      rw [this, b2n_f])).symm
    refine Exists.elim (lpI (fun n c (z : Sg) => f_MO_heads_185 n (nI c) z) (ev N) (fun i z => Fr [112] y z ∧ z 112 23 = nI (cnt (isHd N) i) ∧ ∀ j, j ≠ 23 → z 112 j = y 112 j) ?_ 0 FU y (Nat.zero_le _) (by unfold FU; omega) ⟨Fr.rf _ _, by rw [k1 112 (by decide)]; exact h23, fun _ _ => rfl⟩) ?_
    · intro n i z hi hZ
      obtain ⟨hFz, hz, hzo⟩ := hZ
      have hm := (hm2.fr k1 (by decide)).fr hFz (by decide)
      show ∃ y, _ ∧ f_MO_heads_185 (n + 1) (nI i) z = _
      rw [f_MO_heads_185, inb_n (by decide) (by decide), gd_t, nI_clamp (by decide), m_ev hm, if_neg (nI_ge hi (by omega)), inb_n (by omega) (by omega), gd_t, nI_clamp (by omega), hFz 117 (by decide), hdy i (by omega), hz]
      have put : ∀ t : Nat, t = b2n (isHd N i) → ∃ y', (Fr [112] y y' ∧ y' 112 23 = nI (cnt (isHd N) (i + 1)) ∧ ∀ j, j ≠ 23 → y' 112 j = y 112 j) ∧ f_MO_heads_215 (fun x2 σ => f_MO_heads_185 n x2 σ) (nI i) (nI t) (nI (cnt (isHd N) i)) z = f_MO_heads_185 n (nI (i + 1)) y' := by
        intro t ht
        unfold f_MO_heads_215
        rw [lt', nI_add, nI_add]
        refine ⟨up z 112 23 (nI (cnt (isHd N) i + t)), ⟨hFz.up _ _ (by decide), by rw [up_s, upd_s, cnt_s, ht], fun j hj => by rw [up_s, upd_n _ _ hj]; exact hzo j hj⟩, rfl⟩
      by_cases q : isHd N i = true
      · obtain ⟨q1, q2⟩ := (isHd_iff N i).mp q
        rw [if_pos (by unfold hdm; rw [if_pos q1, q2])]
        exact put 1 (by rw [q]; rfl)
      · rw [if_neg (fun w => q ((isHd_iff N i).mpr (by
          unfold hdm at w
          by_cases w2 : inn N i = true
          · rw [if_pos w2] at w
            have := (nI_eq (by have := hd_le N i; omega) (by omega)).mp w
            exact ⟨w2, this⟩
          · rw [if_neg w2] at w
            exact ((ne1a (by omega)).mp w.symm).elim)))]
        exact put 0 (by rw [show isHd N i = false by simpa using q]; rfl)
    · rintro m2 ⟨z, ⟨hFz, hz, hzo⟩, heq2⟩
      have hm := (hm2.fr k1 (by decide)).fr hFz (by decide)
      refine ⟨z, heq.trans ?_, ?_, fun c hc => by rw [hFz 117 (by decide)]; exact hdy c hc, by rw [hz, hng], fun i hi => by rw [hzo i hi, k1 112 (by decide)]; exact hoth i hi, (hk2.fr k1 (by decide)).fr hFz (by decide)⟩
      · show f_MO_heads_11 (m + 1) (nI 20) x = _
        rw [f_MO_heads_11, if_pos (Int32.le_refl _), k4]
        refine heq2.trans ?_
        show f_MO_heads_185 (m2 + 1) (nI (ev N)) z = _
        rw [f_MO_heads_185, inb_n (by decide) (by decide), gd_t, nI_clamp (by decide), m_ev hm, if_pos (Int32.le_refl _)]
      · exact ((hF2.mono (by decide)).tr (k1.mono (by decide))).tr (hFz.mono (by decide))
end MH
