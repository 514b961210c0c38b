/-! pairs that are near -/
theorem zI_neg (a : Int) : -(zI a) = zI (-a) := (Int32.ofInt_neg a).symm
theorem iabs_z {z : Int} (h1 : -1000000 ≤ z) (h2 : z ≤ 1000000) : iabs (zI z) = nI z.natAbs := by
  unfold iabs
  by_cases q : 0 ≤ z
  · rw [if_pos (show (0 : Int32) ≤ zI z from (zI_le (a := 0) (by decide) (by decide) (by omega) (by omega)).mpr q), nI_z]
    congr 1; omega
  · rw [if_neg (show ¬ (0 : Int32) ≤ zI z from fun w => q ((zI_le (a := 0) (by decide) (by decide) (by omega) (by omega)).mp w)), nI_z, show (0 : Int32) = zI 0 from rfl, zI_sub]
    congr 1; omega
noncomputable def apt (N : Rw) (a b : Nat) : Bool := inn N a && inn N b && !(decide (hd N a = hd N b))
noncomputable def nv (N : Rw) (p : Nat) : Nat := if (p / 20 < p % 20 ∧ apt N (p / 20) (p % 20) = true) ∧ cln N (p / 20) ≤ cln N (p % 20) + 3 ∧ cln N (p % 20) ≤ cln N (p / 20) + 3 then dI N (p / 20) (p % 20) + 1 else 0
noncomputable def nq (N : Rw) (d p : Nat) : Bool := decide (nv N p = d + 1)
noncomputable def npr (N : Rw) (d L : Nat) : Nat := fsti (fun p => nq N d p && decide (cnt (nq N d) p = L)) 400
theorem pr_dm {a b : Nat} (hb : b < 20) : (20 * a + b) / 20 = a ∧ (20 * a + b) % 20 = b := by omega
theorem npr_eq {N : Rw} {d L p : Nat} (hp : p < 400) (h1 : nq N d p = true) (h2 : cnt (nq N d) p = L) : npr N d L = p ∧ L < cnt (nq N d) 400 := by
  constructor
  · refine fsti_eq hp (by rw [h1, decide_eq_true h2]; rfl) (fun j hj => ?_)
    cases q : nq N d j
    · rfl
    · have h3 : cnt (nq N d) (j + 1) ≤ cnt (nq N d) p := sm_mono _ hj
      rw [cnt_s, q, b2n_t] at h3
      rw [decide_eq_false (by omega)]; rfl
  · have h3 : cnt (nq N d) (p + 1) ≤ cnt (nq N d) 400 := sm_mono _ hp
    rw [cnt_s, h1, b2n_t] at h3
    omega
theorem nq_0 {N : Rw} (hN : InvN N) (p : Nat) : nq N 0 p = false := by
  unfold nq nv
  by_cases q : (p / 20 < p % 20 ∧ apt N (p / 20) (p % 20) = true) ∧ cln N (p / 20) ≤ cln N (p % 20) + 3 ∧ cln N (p % 20) ≤ cln N (p / 20) + 3
  · rw [if_pos q]
    refine decide_eq_false (fun z => ?_)
    have h1 := dI_0 (N := N) (a := p / 20) (b := p % 20) (by omega)
    have h2 : (inn N (p / 20) = true ∧ inn N (p % 20) = true) ∧ ¬ hd N (p / 20) = hd N (p % 20) := by simpa [apt] using q.1.2
    exact h2.2 (hd_tie hN h2.1.1 h2.1.2 (by unfold tie; rw [h1, Bool.or_true]))
  · rw [if_neg q]; rfl
theorem nq_iff {N : Rw} {d a b : Nat} (hd3 : d ≤ 3) (hab : a < b) (hb : b < 20) : nq N d (20 * a + b) = true ↔ apt N a b = true ∧ dI N a b = d := by
  unfold nq nv
  rw [(pr_dm hb).1, (pr_dm hb).2]
  have hB := dI_b N a b
  by_cases q : (a < b ∧ apt N a b = true) ∧ cln N a ≤ cln N b + 3 ∧ cln N b ≤ cln N a + 3
  · rw [if_pos q]
    constructor
    · intro w
      have := of_decide_eq_true w
      exact ⟨q.1.2, by omega⟩
    · intro w
      exact decide_eq_true (by omega)
  · rw [if_neg q]
    constructor
    · intro w
      have := of_decide_eq_true w
      omega
    · intro w
      exact absurd ⟨⟨hab, w.1⟩, by omega, by omega⟩ q
theorem nq_no {N : Rw} {d a b : Nat} (hb : b < 20) (h : ¬ a < b) : nq N d (20 * a + b) = false := by
  unfold nq nv
  rw [(pr_dm hb).1, (pr_dm hb).2, if_neg (fun w => h w.1.1)]
  rfl
theorem nq_ev {N : Rw} (hN : InvN N) {d a b : Nat} (hb : b < 20) (h : ev N ≤ a ∨ ev N ≤ b) : nq N d (20 * a + b) = false := by
  unfold nq nv
  rw [(pr_dm hb).1, (pr_dm hb).2, if_neg (fun w => by
    have h2 : (inn N a = true ∧ inn N b = true) ∧ ¬ hd N a = hd N b := by simpa [apt] using w.1.2
    have h3 := (hN.in_lt h2.1.1).2
    have h4 := (hN.in_lt h2.1.2).2
    omega)]
  rfl
theorem cnt_flat {p : Nat → Bool} {m n : Nat} (h : m ≤ n) (h0 : ∀ i, m ≤ i → i < n → p i = false) : cnt p n = cnt p m := sm_out h (fun i h1 h2 => by rw [h0 i h1 h2]; rfl)
section NR
variable {σ : Sg} {N : Rw}
theorem s_apart (hN : InvN N) (hc : HC σ N) {a b : Nat} (ha : a < 20) (hb : b < 20) : f_DI_areApart (nI a) (nI b) σ = some (bI (apt N a b), σ) := by
  have la := hd_le N a
  have lb := hd_le N b
  unfold f_DI_areApart apt
  rw [s_headN hc ha, bd_s, s_headN hc hb, bd_s]
  cases q : inn N a
  · rw [hdc_out q, if_pos rfl]; rfl
  · rw [hdc_in q, if_neg (neI (by omega) (by decide))]
    cases q2 : inn N b
    · rw [hdc_out q2, if_pos rfl]; rfl
    · rw [hdc_in q2, if_neg (neI (by omega) (by decide))]
      by_cases z : hd N a = hd N b
      · rw [if_pos (by rw [z]), decide_eq_true z]; rfl
      · rw [if_neg (fun w => z ((nI_eq (by omega) (by omega)).mp w)), decide_eq_false z]; rfl
theorem s_mayBe (h : QS σ N) {a b : Nat} (ha : a < ev N) (hb : b < ev N) : f_DI_mayBeNear (nI a) (nI b) σ = some (bI (decide (cln N a ≤ cln N b + 3 ∧ cln N b ≤ cln N a + 3)), σ) := by
  have la := h.2.1.cl ha
  have lb := h.2.1.cl hb
  unfold f_DI_mayBeNear
  rw [r_corelen h ha, bd_s, r_corelen h hb, bd_s, nI_z (cln N a), nI_z (cln N b), zI_sub, iabs_z (by omega) (by omega)]
  by_cases z : cln N a ≤ cln N b + 3 ∧ cln N b ≤ cln N a + 3
  · rw [if_neg (fun w => by have := (nI_ltI (by omega) (by omega)).mp w; omega), decide_eq_true z]; rfl
  · rw [if_pos ((nI_ltI (by omega) (by omega)).mpr (by omega)), decide_eq_false z]; rfl
/-- table of pairs, filled up to here -/
def NT (N : Rw) (x : Sg) (e : Nat) : Prop := ∀ p, p < 400 → x 110 p = wI (if p < e then nv N p else 0)
theorem s_near_row (h : QS σ N) (hc : HC σ N) (K : Int32 → Sg → Option (Int32 × Sg)) {a : Nat} (ha : a < 20) {x : Sg} (hF : Fr [109, 110] σ x) (hT : NT N x (20 * a)) : ∃ y, f_DI_fill_22 K FU (nI a) (nI (a + 1)) x = K (nI (a + 1)) y ∧ Fr [109, 110] σ y ∧ NT N y (20 * (a + 1)) := by
  have hE := h.2.1.1.2
  have up1 : ∀ {y : Sg} {b : Nat}, b < 20 → nv N (20 * a + b) = 0 → NT N y (20 * a + b) → NT N y (20 * a + (b + 1)) := by
    intro y b hb h0 hy p hp
    rw [hy p hp]
    by_cases z : p = 20 * a + b
    · rw [z, if_neg (Nat.lt_irrefl _), if_pos (by omega), h0]
    · by_cases w : p < 20 * a + b
      · rw [if_pos w, if_pos (by omega)]
      · rw [if_neg w, if_neg (by omega)]
  have n0 : ∀ b, b < 20 → ¬ a < b → nv N (20 * a + b) = 0 := by
    intro b hb hab
    unfold nv
    rw [(pr_dm hb).1, (pr_dm hb).2, if_neg (fun w => hab w.1.1)]
  have start : ∀ b, b ≤ a + 1 → NT N x (20 * a + b) := by
    intro b
    induction b with
    | zero => intro _; exact hT
    | succ b ih => intro hb; exact up1 (by omega) (n0 b (by omega) (by omega)) (ih (by omega))
  refine Exists.elim (lpI (fun n b (y : Sg) => f_DI_fill_22 K n (nI a) (nI b) y) 20 (fun b y => Fr [109, 110] σ y ∧ (a + 1 ≤ b ∧ NT N y (20 * a + b))) ?_ (a + 1) FU x (by omega) (by unfold FU; omega) ⟨hF, Nat.le_refl _, start _ (Nat.le_refl _)⟩) ?_
  · intro n b y hb hI
    obtain ⟨hG, hab, hy⟩ := hI
    have hq := h.fr hG (by decide)
    have hh := hc.fr hG (by decide)
    show ∃ z, _ ∧ f_DI_fill_22 K (n + 1) (nI a) (nI b) y = _
    rw [f_DI_fill_22, if_neg (nI_ge hb (by decide)), s_apart h.2.1 hh ha hb, bd_s, nI_add]
    cases q : apt N a b
    · rw [if_pos (by decide)]
      refine ⟨y, ⟨hG, by omega, up1 hb ?_ hy⟩, rfl⟩
      unfold nv
      rw [(pr_dm hb).1, (pr_dm hb).2, if_neg (fun w => by have := w.1.2; rw [q] at this; cases this)]
    · have h2 : (inn N a = true ∧ inn N b = true) ∧ ¬ hd N a = hd N b := by simpa [apt] using q
      have ea := (h.2.1.in_lt h2.1.1).2
      have eb := (h.2.1.in_lt h2.1.2).2
      rw [if_neg (by decide), s_mayBe hq ea eb, bd_s]
      by_cases z : cln N a ≤ cln N b + 3 ∧ cln N b ≤ cln N a + 3
      · obtain ⟨u, u1, u2⟩ := s_between hq ea eb
        have e : nv N (20 * a + b) = dI N a b + 1 := by
          unfold nv
          rw [(pr_dm hb).1, (pr_dm hb).2, if_pos ⟨⟨by omega, q⟩, z⟩]
        rw [decide_eq_true z, if_neg (by decide), u1, bd_s, nI_mul, nI_add, show a * 20 + b = 20 * a + b by omega, inb_n (by omega) (by omega), gd_t, nI_clamp (by omega), lt']
        refine ⟨_, ⟨(hG.tr (u2.mono (by decide))).up _ _ (by decide), by omega, fun p hp => ?_⟩, rfl⟩
        rw [up_s]
        by_cases w : p = 20 * a + b
        · rw [w, upd_s, if_pos (by omega), e]; rfl
        · rw [upd_n _ _ w, u2 110 (by decide), hy p hp]
          by_cases v : p < 20 * a + b
          · rw [if_pos v, if_pos (by omega)]
          · rw [if_neg v, if_neg (by omega)]
      · rw [decide_eq_false z, if_pos (by decide)]
        refine ⟨y, ⟨hG, by omega, up1 hb ?_ hy⟩, rfl⟩
        unfold nv
        rw [(pr_dm hb).1, (pr_dm hb).2, if_neg (fun w => z w.2)]
  · rintro m ⟨y, ⟨hG, hab, hy⟩, heq⟩
    refine ⟨y, heq.trans ?_, hG, by rw [show 20 * (a + 1) = 20 * a + 20 by omega]; exact hy⟩
    show f_DI_fill_22 K (m + 1) (nI a) (nI 20) y = _
    rw [f_DI_fill_22, if_pos (Int32.le_refl _), nI_add]
theorem s_diFill (h : QS σ N) (hc : HC σ N) : ∃ y, f_DI_fill σ = some (0, y) ∧ Fr [109, 110] σ y ∧ ∀ p, p < 400 → y 110 p = wI (nv N p) := by
  unfold f_DI_fill
  rw [s_fill _ _ _ _ (by decide), bd_s]
  generalize hx0 : upc σ 110 (fun j => if j < 400 then -5 else σ 110 j) = x0
  have hF0 : Fr [109, 110] σ x0 := by rw [← hx0]; exact (Fr.rf _ _).upc _ (by decide)
  have hT0 : NT N x0 (20 * 0) := fun p hp => by rw [← hx0, upc_s, if_pos hp, if_neg (by omega)]; rfl
  refine Exists.elim (lpI (fun n a (y : Sg) => f_DI_fill_11 n (nI a) y) 20 (fun a y => Fr [109, 110] σ y ∧ NT N y (20 * a)) ?_ 0 FU x0 (Nat.zero_le _) (by decide) ⟨hF0, hT0⟩) ?_
  · intro n a y ha hI
    obtain ⟨hF, hT⟩ := hI
    obtain ⟨z, z1, z2, z3⟩ := s_near_row h hc (fun x3 σ => f_DI_fill_11 n x3 σ) ha hF hT
    show ∃ z, _ ∧ f_DI_fill_11 (n + 1) (nI a) y = _
    rw [f_DI_fill_11, if_neg (nI_ge ha (by decide)), nI_add, lt', z1]
    exact ⟨z, ⟨z2, z3⟩, rfl⟩
  · rintro m ⟨y, ⟨hF, hT⟩, heq⟩
    refine ⟨y, heq.trans ?_, hF, fun p hp => by rw [hT p hp, if_pos hp]⟩
    show f_DI_fill_11 (m + 1) (nI 20) y = _
    rw [f_DI_fill_11, if_pos (Int32.le_refl _)]
theorem nv_le (N : Rw) (hN : InvN N) (p : Nat) : nv N p ≤ 1000 := by
  unfold nv
  by_cases q : (p / 20 < p % 20 ∧ apt N (p / 20) (p % 20) = true) ∧ cln N (p / 20) ≤ cln N (p % 20) + 3 ∧ cln N (p % 20) ≤ cln N (p / 20) + 3
  · rw [if_pos q]
    have h2 : (inn N (p / 20) = true ∧ inn N (p % 20) = true) ∧ ¬ hd N (p / 20) = hd N (p % 20) := by simpa [apt] using q.1.2
    have h3 := hN.cl (hN.in_lt h2.1.1).2
    have h4 := hN.cl (hN.in_lt h2.1.2).2
    have h5 := (dI_b N (p / 20) (p % 20)).1
    omega
  · rw [if_neg q]; omega
theorem wI_v {x d : Nat} (hx : x ≤ 2000) (hd : d < 2000) : (wI x = nI d) ↔ x = d + 1 := by
  by_cases q : x = 0
  · rw [q]
    exact ⟨fun w => absurd w.symm (neI (by omega) (by decide)), fun w => by omega⟩
  · rw [wI_s q, nI_eq (by omega) (by omega)]; omega
theorem s_pairRow (hN : InvN N) (hT : ∀ p, p < 400 → σ 110 p = wI (nv N p)) (K : Int32 → Int32 → Sg → Option (Int32 × Sg)) {L d : Nat} (hL : L < 2147483648) (hd : d ≤ 3) : (L < cnt (nq N d) 400 → f_DI_pairAt_12 K FU (nI L) (nI d) (nI 0) σ = some (nI (npr N d L), σ)) ∧ (¬ L < cnt (nq N d) 400 → f_DI_pairAt_12 K FU (nI L) (nI d) (nI 0) σ = K (nI (L - cnt (nq N d) 400)) (nI (d + 1)) σ) := by
  refine lpE (fun n p (_ : Unit) => f_DI_pairAt_12 K n (nI (L - cnt (nq N d) p)) (nI d) (nI p) σ) 400 (fun p _ => cnt (nq N d) p ≤ L) (fun R => (L < cnt (nq N d) 400 → R = some (nI (npr N d L), σ)) ∧ (¬ L < cnt (nq N d) 400 → R = K (nI (L - cnt (nq N d) 400)) (nI (d + 1)) σ)) ?_ ?_ 400 0 FU () rfl (by decide) (Nat.zero_le _)
  · intro n p _ hp hI
    have hv := nv_le N hN p
    show (_ ∧ _) ∨ ∃ y : Unit, _ ∧ f_DI_pairAt_12 K (n + 1) (nI (L - cnt (nq N d) p)) (nI d) (nI p) σ = _
    have ee : f_DI_pairAt_12 K (n + 1) (nI (L - cnt (nq N d) p)) (nI d) (nI p) σ = if nq N d p = true then (if nI (L - cnt (nq N d) p) = nI 0 then some (nI p, σ) else f_DI_pairAt_12 K n (nI (L - cnt (nq N d) p) + (-1)) (nI d) (nI (p + 1)) σ) else f_DI_pairAt_12 K n (nI (L - cnt (nq N d) p)) (nI d) (nI (p + 1)) σ := by
      rw [f_DI_pairAt_12, if_neg (nI_ge hp (by decide)), inb_n hp (by omega), gd_t, nI_clamp (by omega), hT p hp, nI_add]
      refine if_b ?_ _ _
      rw [wI_v (by omega) (by omega)]
      unfold nq
      exact (decide_eq_true_iff).symm
    have es : cnt (nq N d) (p + 1) = cnt (nq N d) p + b2n (nq N d p) := rfl
    cases q : nq N d p
    · rw [q, b2n_f] at es
      rw [q, if_neg (by decide)] at ee
      exact Or.inr ⟨(), by omega, by rw [ee, es]; rfl⟩
    · rw [q, b2n_t] at es
      rw [q, if_pos rfl] at ee
      by_cases z : L - cnt (nq N d) p = 0
      · obtain ⟨k1, k2⟩ := npr_eq (L := L) hp q (by omega)
        refine Or.inl ⟨fun _ => ?_, fun w => absurd k2 w⟩
        rw [if_pos (by rw [z])] at ee
        rw [k1]
        exact ee
      · refine Or.inr ⟨(), by omega, ?_⟩
        rw [ee, if_neg (fun w => z ((nI_eq (by omega) (by decide)).mp w)), es, show nI (L - cnt (nq N d) p) + (-1) = nI (L - cnt (nq N d) p) - nI 1 by rw [Int32.sub_eq_add_neg]; rfl, mI_sub, mI_s z, Nat.sub_sub]
  · intro n _ hI
    show (_ → f_DI_pairAt_12 K (n + 1) (nI (L - cnt (nq N d) 400)) (nI d) (nI 400) σ = _) ∧ (_ → f_DI_pairAt_12 K (n + 1) (nI (L - cnt (nq N d) 400)) (nI d) (nI 400) σ = _)
    rw [f_DI_pairAt_12, if_pos (Int32.le_refl _), nI_add]
    exact ⟨fun w => by omega, fun _ => rfl⟩
end NR
