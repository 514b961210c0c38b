/-! groups: what comes from one to another -/
def conn (N : Rw) (a b : Nat) : Prop := ∀ P : Nat → Prop, P a → (∀ x y, P x → inn N y = true → tie N x y = true → P y) → P b
theorem conn.rf (N : Rw) (a : Nat) : conn N a a := fun _ h _ => h
theorem conn.tr {N : Rw} {a b c : Nat} (h : conn N a b) (k : conn N b c) : conn N a c := fun P ha hs => k P (h P ha hs) hs
theorem conn.st {N : Rw} {a b c : Nat} (h : conn N a b) (hc : inn N c = true) (ht : tie N b c = true) : conn N a c := fun P ha hs => hs b c (h P ha hs) hc ht
theorem conn.in {N : Rw} {a b : Nat} (h : conn N a b) (ha : inn N a = true) : inn N b = true := h (fun y => inn N y = true) ha (fun _ _ _ q _ => q)
theorem conn.sy {N : Rw} (hN : InvN N) {a b : Nat} (h : conn N a b) (ha : inn N a = true) : conn N b a :=
  (h (fun y => inn N y = true ∧ conn N y a) ⟨ha, conn.rf N a⟩ (fun x y hx hy ht => ⟨hy, ((conn.rf N y).st hx.1 (tie_sy hN (hN.in_lt hx.1).1 (hN.in_lt hy).1 ht)).tr hx.2⟩)).2
noncomputable def hd (N : Rw) (c : Nat) : Nat := fsti (fun d => @decide (inn N d = true ∧ conn N c d) (Classical.propDecidable _)) c
theorem hd_le (N : Rw) (c : Nat) : hd N c ≤ c := fsti_le _ _
theorem hd_in {N : Rw} {c : Nat} (hc : inn N c = true) : inn N (hd N c) = true ∧ conn N c (hd N c) := by
  rcases Nat.lt_or_ge (hd N c) c with q | q
  · have h := fsti_yes (fun d => @decide (inn N d = true ∧ conn N c d) (Classical.propDecidable _)) c q
    exact @of_decide_eq_true _ (Classical.propDecidable _) h
  · rw [show hd N c = c by have := hd_le N c; omega]
    exact ⟨hc, conn.rf N c⟩
theorem hd_min {N : Rw} {c d : Nat} (hd1 : inn N d = true) (hd2 : conn N c d) : hd N c ≤ d := by
  rcases Nat.lt_or_ge d (hd N c) with q | q
  · have h := fsti_no (fun d => @decide (inn N d = true ∧ conn N c d) (Classical.propDecidable _)) c d q
    exact absurd ⟨hd1, hd2⟩ (@of_decide_eq_false _ (Classical.propDecidable _) h)
  · exact q
theorem hd_conn {N : Rw} (hN : InvN N) {a b : Nat} (ha : inn N a = true) (h : conn N a b) : hd N a = hd N b := by
  have hb := h.in ha
  have h1 := hd_in ha
  have h2 := hd_in hb
  have k1 : hd N a ≤ hd N b := hd_min h2.1 (h.tr h2.2)
  have k2 : hd N b ≤ hd N a := hd_min h1.1 ((h.sy hN ha).tr h1.2)
  omega
theorem hd_tie {N : Rw} (hN : InvN N) {a b : Nat} (ha : inn N a = true) (hb : inn N b = true) (ht : tie N a b = true) : hd N a = hd N b := hd_conn hN ha ((conn.rf N a).st hb ht)
theorem hd_hd {N : Rw} (hN : InvN N) {c : Nat} (hc : inn N c = true) : hd N (hd N c) = hd N c := (hd_conn hN hc (hd_in hc).2).symm
/-- every good table of heads is this one -/
theorem hd_one {N : Rw} (hN : InvN N) {h : Nat → Nat} (h1 : ∀ c, inn N c = true → h c ≤ c ∧ inn N (h c) = true ∧ conn N c (h c)) (h2 : ∀ a b, inn N a = true → inn N b = true → tie N a b = true → h a = h b) {c : Nat} (hc : inn N c = true) : h c = hd N c := by
  have key : ∀ b, conn N c b → inn N b = true ∧ h b = h c := fun b hb => hb (fun y => inn N y = true ∧ h y = h c) ⟨hc, rfl⟩ (fun x y hx hy ht => ⟨hy, (h2 x y hx.1 hy ht).symm.trans hx.2⟩)
  obtain ⟨q1, q2, q3⟩ := h1 c hc
  have a1 : hd N c ≤ h c := hd_min q2 q3
  obtain ⟨r1, r2⟩ := hd_in hc
  have a2 := (key _ r2).2
  have a3 := (h1 _ r1).1
  omega
noncomputable def hdc (N : Rw) (c : Nat) : Int32 := if inn N c = true then nI (hd N c) else -5
noncomputable def hdm (N : Rw) (c : Nat) : Int32 := if inn N c = true then nI (hd N c) else -1
noncomputable def isHd (N : Rw) (c : Nat) : Bool := inn N c && decide (hd N c = c)
noncomputable def ng (N : Rw) : Nat := cnt (isHd N) 20
theorem isHd_iff (N : Rw) (c : Nat) : isHd N c = true ↔ inn N c = true ∧ hd N c = c := by simp [isHd]
theorem hd_isHd {N : Rw} (hN : InvN N) {c : Nat} (hc : inn N c = true) : isHd N (hd N c) = true := (isHd_iff N _).mpr ⟨(hd_in hc).1, hd_hd hN hc⟩
/-! counting -/
theorem sm_upd {p q : Nat → Nat} {n j : Nat} (hj : j < n) (h : ∀ i, i ≠ j → q i = p i) : sm q n + p j = sm p n + q j := by
  induction n with
  | zero => omega
  | succ n ih =>
    rw [sm, sm]
    by_cases e : j = n
    · rw [e, sm_cong (p := q) (q := p) (fun i hi => h i (by omega))]
      omega
    · rw [h n (fun z => e z.symm)]
      have := ih (by omega)
      omega
theorem cnt_s (p : Nat → Bool) (n : Nat) : cnt p (n + 1) = cnt p n + b2n (p n) := rfl
theorem cnt_upd {p q : Nat → Bool} {n j : Nat} (hj : j < n) (h : ∀ i, i ≠ j → q i = p i) : cnt q n + b2n (p j) = cnt p n + b2n (q j) := sm_upd (p := fun i => b2n (p i)) (q := fun i => b2n (q i)) hj (fun i hi => by rw [h i hi])
theorem b2n_t : b2n true = 1 := rfl
theorem b2n_f : b2n false = 0 := rfl
theorem cnt_lt {p : Nat → Bool} {n j : Nat} (hj : j < n) (h : p j = false) : cnt p n < n := by
  induction n with
  | zero => omega
  | succ n ih =>
    rw [cnt_s]
    by_cases e : j = n
    · rw [← e, h, b2n_f]
      have h1 := cnt_le p j
      omega
    · have h1 := ih (by omega)
      have h2 := b2n_le (p n)
      omega
section GRP
variable {σ : Sg} {N : Rw}
/-- the class's search, in the midst of a group -/
def GI (N : Rw) (σ : Sg) (i : Nat) (size : Nat) (x : Sg) : Prop :=
  Fr [83, 84] σ x ∧ (∀ c, c < 20 → x 83 c = -5 ∨ (inn N c = true ∧ x 83 c = nI (hd N c))) ∧ (∀ c, c < 20 → σ 83 c ≠ -5 → x 83 c ≠ -5) ∧
  (∀ c, c < 20 → x 83 c ≠ -5 → σ 83 c ≠ -5 ∨ ∃ k, k < size ∧ x 84 k = nI c) ∧ (∀ k, k < size → ∃ c, c < 20 ∧ x 84 k = nI c ∧ inn N c = true ∧ conn N i c ∧ x 83 c ≠ -5) ∧
  size = cnt (fun c => decide (x 83 c = nI i)) 20
theorem g_in (h : QS σ N) (K : Int32 → Int32 → Int32 → Sg → Option (Int32 × Sg)) {i nx c0 size : Nat} (hi : i < 20) (hii : inn N i = true) (hdi : hd N i = i) (hc0 : conn N i c0) (hnx : nx < 20) {x0 : Sg} (hI : GI N σ i size x0) :
    ∃ size' x, size ≤ size' ∧ GI N σ i size' x ∧ (∀ k, k < size → x 84 k = x0 84 k) ∧ (∀ c, c < 20 → x0 83 c ≠ -5 → x 83 c ≠ -5) ∧ (∀ b, b < 20 → inn N b = true → tie N c0 b = true → x 83 b ≠ -5) ∧ f_GR_gather_48 K FU (nI i) (nI size) (nI nx) (nI c0) (nI 0) x0 = K (nI i) (nI size') (nI (nx + 1)) x := by
  have hc0i : inn N c0 = true := hc0.in hii
  have hc0e := h.2.1.in_lt hc0i
  refine Exists.elim (lpI (fun n t (y : Nat × Sg) => f_GR_gather_48 K n (nI i) (nI y.1) (nI nx) (nI c0) (nI t) y.2) 20
    (fun t y => size ≤ y.1 ∧ GI N σ i y.1 y.2 ∧ (∀ k, k < size → y.2 84 k = x0 84 k) ∧ (∀ c, c < 20 → x0 83 c ≠ -5 → y.2 83 c ≠ -5) ∧ ∀ b, b < t → inn N b = true → tie N c0 b = true → y.2 83 b ≠ -5) ?_ 0 FU (size, x0) (Nat.zero_le _) (by decide) ⟨Nat.le_refl _, hI, fun _ _ => rfl, fun _ _ q => q, fun _ q => absurd q (Nat.not_lt_zero _)⟩) ?_
  · intro n t y ht hJ
    obtain ⟨s, x⟩ := y
    dsimp only at hJ
    obtain ⟨hs, hG, hk, hmo, hb⟩ := hJ
    have hq := h.fr hG.1 (by decide)
    show ∃ y, _ ∧ f_GR_gather_48 K (n + 1) (nI i) (nI s) (nI nx) (nI c0) (nI t) x = _
    rw [f_GR_gather_48]
    simp (disch := omega) only [nI_leI, nI_ltI, nI_eq, nI_add, nI_mul, inb_n, nI_clamp, ne5a, ne1a, if_neg, gd_t]
    have stay : x 83 t ≠ -5 ∨ inn N t = false ∨ tie N c0 t = false → ∀ b, b < t + 1 → inn N b = true → tie N c0 b = true → x 83 b ≠ -5 := by
      intro q b hb1 hb2 hb3
      rcases Nat.lt_or_ge b t with z | z
      · exact hb b z hb2 hb3
      · rw [show b = t by omega] at hb2 hb3 ⊢
        rcases q with q | q | q
        · exact q
        · rw [q] at hb2; cases hb2
        · rw [q] at hb3; cases hb3
    by_cases e : x 83 t = -5
    · rw [if_pos e, r_isInN hq t ht, bd_s]
      cases q : inn N t
      · rw [if_pos (by decide)]
        exact ⟨(s, x), ⟨hs, hG, hk, hmo, stay (Or.inr (Or.inl q))⟩, rfl⟩
      · have hte := h.2.1.in_lt q
        rw [if_neg (by decide), r_tied hq hc0e.2 hte.2, bd_s]
        cases q2 : tie N c0 t
        · rw [if_pos (by decide)]
          exact ⟨(s, x), ⟨hs, hG, hk, hmo, stay (Or.inr (Or.inr q2))⟩, rfl⟩
        · rw [if_neg (by decide)]
          obtain ⟨g1, g2, g3, g4, g5, g6⟩ := hG
          have hct : conn N i t := hc0.st q q2
          have hdt : hd N t = i := by rw [← hd_conn h.2.1 hii hct, hdi]
          have hne : decide (x 83 t = nI i) = false := by
            rw [e]
            exact decide_eq_false (fun z => by have := (ne5a (a := i) (by omega)).mp z.symm; exact this)
          have hs20 : s < 20 := by rw [g6]; exact cnt_lt (p := fun c => decide (x 83 c = nI i)) ht hne
          rw [lt', s_put _ _ _ _ _ (by omega) (by decide), bd_s]
          have v83 : ∀ c, up (up x 83 t (nI i)) 84 s (nI t) 83 c = if c = t then nI i else x 83 c := by
            intro c
            rw [up_n _ _ _ (by decide), up_s]
            rfl
          have v84 : ∀ k, up (up x 83 t (nI i)) 84 s (nI t) 84 k = if k = s then nI t else x 84 k := by
            intro k
            rw [up_s, up_n _ _ _ (by decide)]
            rfl
          refine ⟨(s + 1, up (up x 83 t (nI i)) 84 s (nI t)), ⟨by omega, ⟨(g1.up _ _ (by decide)).up _ _ (by decide), fun c hc => ?_, fun c hc hc2 => ?_, fun c hc hc2 => ?_, fun k hk2 => ?_, ?_⟩, fun k hk2 => ?_, fun c hc hc2 => ?_, fun b hb1 hb2 hb3 => ?_⟩, rfl⟩
          · dsimp only
            rw [v83]
            by_cases z : c = t
            · rw [if_pos z, z]
              exact Or.inr ⟨q, by rw [hdt]⟩
            · rw [if_neg z]
              exact g2 c hc
          · dsimp only
            rw [v83]
            by_cases z : c = t
            · rw [if_pos z]
              exact fun w => (ne5a (by omega)).mp w
            · rw [if_neg z]
              exact g3 c hc hc2
          · dsimp only at hc2 ⊢
            rw [v83] at hc2
            by_cases z : c = t
            · exact Or.inr ⟨s, by omega, by rw [v84, if_pos rfl, z]⟩
            · rw [if_neg z] at hc2
              rcases g4 c hc hc2 with w | ⟨k, w1, w2⟩
              · exact Or.inl w
              · exact Or.inr ⟨k, by omega, by rw [v84, if_neg (by omega)]; exact w2⟩
          · dsimp only
            by_cases z : k = s
            · exact ⟨t, ht, by rw [v84, if_pos z], q, hct, by rw [v83, if_pos rfl]; exact fun w => (ne5a (by omega)).mp w⟩
            · obtain ⟨c, w1, w2, w3, w4, w5⟩ := g5 k (by omega)
              refine ⟨c, w1, by rw [v84, if_neg z]; exact w2, w3, w4, ?_⟩
              rw [v83]
              by_cases z2 : c = t
              · rw [if_pos z2]; exact fun w => (ne5a (by omega)).mp w
              · rw [if_neg z2]; exact w5
          · have hu := cnt_upd (p := fun c => decide (x 83 c = nI i)) (q := fun c => decide (up (up x 83 t (nI i)) 84 s (nI t) 83 c = nI i)) (n := 20) (j := t) ht (fun j hj => by rw [v83, if_neg hj])
            dsimp only at hu ⊢
            rw [v83, if_pos rfl, hne, decide_eq_true rfl, b2n_t, b2n_f] at hu
            omega
          · dsimp only
            rw [v84, if_neg (by omega)]
            exact hk k hk2
          · dsimp only
            rw [v83]
            by_cases z : c = t
            · rw [if_pos z]; exact fun w => (ne5a (by omega)).mp w
            · rw [if_neg z]; exact hmo c hc hc2
          · dsimp only
            rw [v83]
            by_cases z : b = t
            · rw [if_pos z]; exact fun w => (ne5a (by omega)).mp w
            · rw [if_neg z]; exact hb b (by omega) hb2 hb3
    · rw [if_neg e]
      exact ⟨(s, x), ⟨hs, hG, hk, hmo, stay (Or.inl e)⟩, rfl⟩
  · rintro m ⟨y, ⟨a1, a2, a3, a4, a5⟩, heq⟩
    refine ⟨y.1, y.2, a1, a2, a3, a4, fun b hb => a5 b hb, heq.trans ?_⟩
    show f_GR_gather_48 K (m + 1) (nI i) (nI y.1) (nI nx) (nI c0) (nI 20) y.2 = _
    rw [f_GR_gather_48, if_pos (Int32.le_refl _), nI_add]
/-- the table of heads while groups are found: right where it is filled, and filled by whole groups -/
def GT (N : Rw) (x : Sg) : Prop := (∀ c, c < 20 → x 83 c = -5 ∨ (inn N c = true ∧ x 83 c = nI (hd N c))) ∧ ∀ a b, a < 20 → inn N b = true → x 83 a ≠ -5 → tie N a b = true → x 83 b ≠ -5
theorem GT.cl {x : Sg} (hN : InvN N) (h : GT N x) {a b : Nat} (ha : a < 20) (hx : x 83 a ≠ -5) (hc : conn N a b) : x 83 b ≠ -5 :=
  (hc (fun y => y < 20 ∧ x 83 y ≠ -5) ⟨ha, hx⟩ (fun p q hp hq ht => ⟨(hN.in_lt hq).1, h.2 p q hp.1 hq hp.2 ht⟩)).2
theorem g_gather (h : QS σ N) {i : Nat} (hi : i < 20) (hii : inn N i = true) (hdi : hd N i = i) (hT : GT N σ) (h0 : σ 83 i = -5) :
    ∃ x, f_GR_gather (nI i) σ = some (0, x) ∧ Fr [83, 84] σ x ∧ GT N x ∧ (∀ c, c < 20 → σ 83 c ≠ -5 → x 83 c ≠ -5) ∧ x 83 i ≠ -5 ∧ (∀ c, c < 20 → x 83 c ≠ -5 → σ 83 c ≠ -5 ∨ hd N c = i) := by
  unfold f_GR_gather
  rw [s_put _ _ _ _ _ hi (by decide), bd_s, s_put _ _ _ _ _ (by decide) (by decide), bd_s]
  have hno : ∀ c, c < 20 → σ 83 c ≠ nI i := by
    intro c hc e
    rcases hT.1 c hc with w | ⟨w1, w2⟩
    · rw [w] at e
      exact (ne5a (by omega)).mp e.symm
    · have e2 : hd N c = i := by
        rw [e] at w2
        have := (nI_eq (by omega) (by have := hd_le N c; omega)).mp w2
        omega
      have hx : σ 83 c ≠ -5 := by rw [e]; exact fun z => (ne5a (by omega)).mp z
      exact hT.cl h.2.1 hc hx (e2 ▸ (hd_in w1).2) h0
  have v83 : ∀ c, up (up σ 83 i (nI i)) 84 0 (nI i) 83 c = if c = i then nI i else σ 83 c := by
    intro c
    rw [up_n _ _ _ (by decide), up_s]
    rfl
  have v84 : up (up σ 83 i (nI i)) 84 0 (nI i) 84 0 = nI i := by
    rw [up_s, upd_s]
  have hI : GI N σ i 1 (up (up σ 83 i (nI i)) 84 0 (nI i)) := by
    refine ⟨((Fr.rf _ _).up _ _ (by decide)).up _ _ (by decide), fun c hc => ?_, fun c hc hc2 => ?_, fun c hc hc2 => ?_, fun k hk => ?_, ?_⟩
    · rw [v83]
      by_cases z : c = i
      · rw [if_pos z, z, hdi]; exact Or.inr ⟨hii, rfl⟩
      · rw [if_neg z]; exact hT.1 c hc
    · rw [v83]
      by_cases z : c = i
      · rw [if_pos z]; exact fun w => (ne5a (by omega)).mp w
      · rw [if_neg z]; exact hc2
    · rw [v83] at hc2
      by_cases z : c = i
      · exact Or.inr ⟨0, by omega, by rw [v84, z]⟩
      · rw [if_neg z] at hc2; exact Or.inl hc2
    · refine ⟨i, hi, by rw [show k = 0 by omega]; exact v84, hii, conn.rf N i, ?_⟩
      rw [v83, if_pos rfl]
      exact fun w => (ne5a (by omega)).mp w
    · have hu := cnt_upd (p := fun c => decide (σ 83 c = nI i)) (q := fun c => decide (up (up σ 83 i (nI i)) 84 0 (nI i) 83 c = nI i)) (n := 20) (j := i) hi (fun j hj => by rw [v83, if_neg hj])
      have h00 : cnt (fun c => decide (σ 83 c = nI i)) 20 = 0 := (cnt_cong (q := fun _ => false) (fun c hc => decide_eq_false (hno c hc))).trans (by decide)
      rw [h00, v83, if_pos rfl, decide_eq_false (hno i hi), decide_eq_true rfl, b2n_t, b2n_f] at hu
      omega
  have hi5 : up (up σ 83 i (nI i)) 84 0 (nI i) 83 i ≠ -5 := by
    rw [v83, if_pos rfl]
    exact fun w => (ne5a (by omega)).mp w
  generalize up (up σ 83 i (nI i)) 84 0 (nI i) = x0 at hI hi5 ⊢
  have hL := lpE (fun n nx (y : Nat × Sg) => f_GR_gather_23 n (nI i) (nI y.1) (nI nx) y.2) 20
    (fun nx y => GI N σ i y.1 y.2 ∧ y.2 83 i ≠ -5 ∧ ∀ k, k < nx → k < y.1 → ∀ c b, y.2 84 k = nI c → c < 20 → b < 20 → inn N b = true → tie N c b = true → y.2 83 b ≠ -5)
    (fun r => ∃ s x, r = some (0, x) ∧ GI N σ i s x ∧ x 83 i ≠ -5 ∧ ∀ k, k < s → ∀ c b, x 84 k = nI c → c < 20 → b < 20 → inn N b = true → tie N c b = true → x 83 b ≠ -5) ?_ ?_ 20 0 FU (1, x0) rfl (by decide) ⟨hI, hi5, fun k hk => absurd hk (Nat.not_lt_zero _)⟩
  · obtain ⟨s, x, e, hG, h1s, hp⟩ := hL
    obtain ⟨g1, g2, g3, g4, g5, g6⟩ := hG
    refine ⟨x, e, g1, ⟨g2, fun a b ha hb hxa ht => ?_⟩, g3, h1s, fun c hc hxc => ?_⟩
    · have hbe := (h.2.1.in_lt hb).1
      rcases g4 a ha hxa with w | ⟨k, w1, w2⟩
      · exact g3 b hbe (hT.2 a b ha hb w ht)
      · exact hp k w1 a b w2 ha hbe hb ht
    · rcases g4 c hc hxc with w | ⟨k, w1, w2⟩
      · exact Or.inl w
      · obtain ⟨c', u1, u2, u3, u4, u5⟩ := g5 k w1
        rw [u2] at w2
        have e2 := (nI_eq (by omega) (by omega)).mp w2
        right
        rw [← e2, ← hd_conn h.2.1 hii u4, hdi]
  · intro n nx y hnx hJ
    obtain ⟨s, x⟩ := y
    dsimp only at hJ
    obtain ⟨hG, h1s, hp⟩ := hJ
    have hs20 : s ≤ 20 := by rw [hG.2.2.2.2.2]; exact cnt_le _ _
    show _ ∨ ∃ y, _ ∧ f_GR_gather_23 (n + 1) (nI i) (nI s) (nI nx) x = _
    rw [f_GR_gather_23]
    by_cases z : s ≤ nx
    · left
      rw [if_pos ((nI_leI (by omega) (by omega)).mpr z)]
      exact ⟨s, x, rfl, hG, h1s, fun k hk => hp k (by omega) hk⟩
    · right
      rw [if_neg (by rw [nI_leI (by omega) (by omega)]; exact z)]
      simp (disch := omega) only [nI_leI, nI_ltI, nI_eq, nI_add, nI_mul, inb_n, nI_clamp, ne5a, ne1a, if_neg, gd_t]
      obtain ⟨c0, w1, w2, w3, w4, w5⟩ := hG.2.2.2.2.1 nx (by omega)
      rw [lt', w2]
      obtain ⟨s', x', k1, k2, k3, k4, k5, k6⟩ := g_in h (fun x2 x3 x4 σ => f_GR_gather_23 n x2 x3 x4 σ) hi hii hdi w4 hnx hG
      refine ⟨(s', x'), ⟨k2, k4 i hi h1s, fun k hk hk2 c b hc hcl hb hbi ht => ?_⟩, k6⟩
      dsimp only at hc hk2 ⊢
      by_cases e : k = nx
      · rw [e, k3 nx (by omega), w2] at hc
        have := (nI_eq (by omega) (by omega)).mp hc
        exact k5 b hb hbi (this ▸ ht)
      · rw [k3 k (by omega)] at hc
        exact k4 b hb (hp k (by omega) (by omega) c b hc hcl hb hbi ht)
  · intro n y hJ
    obtain ⟨s, x⟩ := y
    dsimp only at hJ
    obtain ⟨hG, h1s, hp⟩ := hJ
    have hs20 : s ≤ 20 := by rw [hG.2.2.2.2.2]; exact cnt_le _ _
    refine ⟨s, x, ?_, hG, h1s, fun k hk => hp k (by omega) hk⟩
    show f_GR_gather_23 (n + 1) (nI i) (nI s) (nI 20) x = _
    rw [f_GR_gather_23, if_pos ((nI_leI (by omega) (by omega)).mpr hs20)]
theorem g_find (h : QS σ N) : ∃ x, f_GR_find σ = some (0, x) ∧ Fr [82, 83, 84] σ x ∧ (∀ c, c < 20 → x 83 c = hdc N c) ∧ x 82 2 = nI (ng N) := by
  unfold f_GR_find
  rw [s_fill _ _ _ _ (by decide), bd_s, lt']
  have hstart : ∀ c, c < 20 → up (upc σ 83 (fun j => if j < 20 then -5 else σ 83 j)) 82 2 (nI 0) 83 c = -5 := by
    intro c hc
    rw [up_n _ _ _ (by decide), upc_s, if_pos hc]
  have hF0 : Fr [82, 83, 84] σ (up (upc σ 83 (fun j => if j < 20 then -5 else σ 83 j)) 82 2 (nI 0)) := ((Fr.rf _ _).upc _ (by decide)).up _ _ (by decide)
  have hn0 : up (upc σ 83 (fun j => if j < 20 then -5 else σ 83 j)) 82 2 (nI 0) 82 2 = nI 0 := by rw [up_s, upd_s]
  generalize up (upc σ 83 (fun j => if j < 20 then -5 else σ 83 j)) 82 2 (nI 0) = x0 at hstart hF0 hn0 ⊢
  refine Exists.elim (lpI (fun n i (x : Sg) => f_GR_find_16 n (nI i) x) 20
    (fun i x => Fr [82, 83, 84] σ x ∧ GT N x ∧ (∀ c, c < i → inn N c = true → x 83 c ≠ -5) ∧ x 82 2 = nI (cnt (isHd N) i) ∧ ∀ c, c < 20 → x 83 c ≠ -5 → hd N c < i) ?_ 0 FU x0 (Nat.zero_le _) (by decide) ⟨hF0, ⟨fun c hc => Or.inl (hstart c hc), fun a b ha hb hx => absurd (hstart a ha) hx⟩, fun c hc => absurd hc (Nat.not_lt_zero _), hn0, fun c hc hx => absurd (hstart c hc) hx⟩) ?_
  · intro n i x hi hJ
    obtain ⟨hF, hT, hin, hnum, hlow⟩ := hJ
    have hq := h.fr hF (by decide)
    show ∃ y, _ ∧ f_GR_find_16 (n + 1) (nI i) x = _
    rw [f_GR_find_16]
    simp (disch := omega) only [nI_leI, nI_ltI, nI_eq, nI_add, nI_mul, inb_n, nI_clamp, ne5a, ne1a, if_neg, r_isInN hq i hi, bd_s]
    have step : ∀ x' : Sg, (∀ c, c < i → inn N c = true → x' 83 c ≠ -5) → (inn N i = true → x' 83 i ≠ -5) → ∀ c, c < i + 1 → inn N c = true → x' 83 c ≠ -5 := by
      intro x' k1 k2 c hc hci
      rcases Nat.lt_or_ge c i with z | z
      · exact k1 c z hci
      · rw [show c = i by omega] at hci ⊢; exact k2 hci
    cases q : inn N i
    · rw [if_pos (by decide)]
      refine ⟨x, ⟨hF, hT, step x hin (fun w => by rw [q] at w; cases w), ?_, fun c hc hx => by have := hlow c hc hx; omega⟩, rfl⟩
      rw [cnt_s, show isHd N i = false by simp [isHd, q], b2n_f]
      exact hnum
    · rw [if_neg (by decide)]
      simp (disch := omega) only [nI_leI, nI_ltI, nI_eq, nI_add, nI_mul, inb_n, nI_clamp, ne5a, ne1a, gd_t]
      by_cases e : x 83 i = -5
      · rw [if_pos e]
        have hdi : hd N i = i := by
          rcases Nat.lt_or_ge (hd N i) i with z | z
          · have h1 := hd_in q
            have h2 := hin _ z h1.1
            exact absurd e (hT.cl h.2.1 (by omega) h2 (h1.2.sy h.2.1 q))
          · have := hd_le N i; omega
        rw [hnum, nI_add, lt']
        have e83 : ∀ c, up x 82 2 (nI (cnt (isHd N) i + 1)) 83 c = x 83 c := fun c => by rw [up_n _ _ _ (by decide)]
        have hT2 : GT N (up x 82 2 (nI (cnt (isHd N) i + 1))) := ⟨fun c hc => by rw [e83]; exact hT.1 c hc, fun a b ha hb hx ht => by rw [e83] at hx ⊢; exact hT.2 a b ha hb hx ht⟩
        obtain ⟨y, k1, k2, k3, k4, k5, k6⟩ := g_gather (h.fr (hF.up 2 (nI (cnt (isHd N) i + 1)) (by decide)) (by decide)) hi q hdi hT2 (by rw [e83]; exact e)
        rw [k1, bd_s]
        refine ⟨y, ⟨(hF.up _ _ (by decide)).tr (k2.mono (by decide)), k3, step y (fun c hc hci => k4 c (by omega) (by rw [e83]; exact hin c hc hci)) (fun _ => k5), ?_, fun c hc hx => ?_⟩, rfl⟩
        · rw [k2 82 (by decide), up_s, upd_s, cnt_s, (isHd_iff N i).mpr ⟨q, hdi⟩, b2n_t]
        · rcases k6 c hc hx with w | w
          · rw [e83] at w
            have := hlow c hc w
            omega
          · omega
      · rw [if_neg e]
        refine ⟨x, ⟨hF, hT, step x hin (fun _ => e), ?_, fun c hc hx => by have := hlow c hc hx; omega⟩, rfl⟩
        have hni : isHd N i = false := by
          cases w : isHd N i
          · rfl
          · have h1 := hlow i hi e
            have h2 := ((isHd_iff N i).mp w).2
            omega
        rw [cnt_s, hni, b2n_f]
        exact hnum
  · rintro m ⟨y, ⟨hF, hT, hin, hnum, -⟩, heq⟩
    refine ⟨y, heq.trans ?_, hF, fun c hc => ?_, hnum⟩
    · show f_GR_find_16 (m + 1) (nI 20) y = _
      rw [f_GR_find_16, if_pos (Int32.le_refl _)]
    · unfold hdc
      rcases hT.1 c hc with w | ⟨w1, w2⟩
      · rw [if_neg (fun z => hin c hc z w), w]
      · rw [if_pos w1, w2]
end GRP
