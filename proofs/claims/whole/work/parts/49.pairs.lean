section PR
variable {σ : Sg} {N : Rw}
/-- the pair with this rank: distance and place; none beyond -/
noncomputable def sel (N : Rw) (L : Nat) : Option (Nat × Nat) :=
  if L < cnt (nq N 1) 400 then some (1, npr N 1 L) else
  if L - cnt (nq N 1) 400 < cnt (nq N 2) 400 then some (2, npr N 2 (L - cnt (nq N 1) 400)) else
  if L - cnt (nq N 1) 400 - cnt (nq N 2) 400 < cnt (nq N 3) 400 then some (3, npr N 3 (L - cnt (nq N 1) 400 - cnt (nq N 2) 400)) else none
theorem npr_ok {N : Rw} {d L : Nat} (h : L < cnt (nq N d) 400) : npr N d L < 400 ∧ nq N d (npr N d L) = true := by
  have key : ∀ n, L < cnt (nq N d) n → ∃ p, p < n ∧ nq N d p = true ∧ cnt (nq N d) p = L := by
    intro n
    induction n with
    | zero => intro w; exact absurd w (Nat.not_lt_zero _)
    | succ n ih =>
      intro w
      by_cases q : L < cnt (nq N d) n
      · obtain ⟨p, p1, p2, p3⟩ := ih q
        exact ⟨p, by omega, p2, p3⟩
      · rw [cnt_s] at w
        cases z : nq N d n
        · rw [z, b2n_f] at w; omega
        · rw [z, b2n_t] at w; exact ⟨n, by omega, z, by omega⟩
  obtain ⟨p, p1, p2, p3⟩ := key 400 h
  rw [(npr_eq p1 p2 p3).1]
  exact ⟨p1, p2⟩
theorem sel_ok {N : Rw} {L d p : Nat} (h : sel N L = some (d, p)) : p < 400 ∧ (1 ≤ d ∧ d ≤ 3) ∧ nq N d p = true := by
  unfold sel at h
  by_cases q1 : L < cnt (nq N 1) 400
  · rw [if_pos q1] at h
    have k := npr_ok q1
    cases h
    exact ⟨k.1, ⟨by decide, by decide⟩, k.2⟩
  · rw [if_neg q1] at h
    by_cases q2 : L - cnt (nq N 1) 400 < cnt (nq N 2) 400
    · rw [if_pos q2] at h
      have k := npr_ok q2
      cases h
      exact ⟨k.1, ⟨by decide, by decide⟩, k.2⟩
    · rw [if_neg q2] at h
      by_cases q3 : L - cnt (nq N 1) 400 - cnt (nq N 2) 400 < cnt (nq N 3) 400
      · rw [if_pos q3] at h
        have k := npr_ok q3
        cases h
        exact ⟨k.1, ⟨by decide, by decide⟩, k.2⟩
      · rw [if_neg q3] at h; cases h
theorem s_pairAt (hN : InvN N) (hT : ∀ p, p < 400 → σ 110 p = wI (nv N p)) {L : Nat} (hL : L < 2147483648) : f_DI_pairAt (nI L) σ = some (match sel N L with | some (_, p) => nI p | none => -5, σ) := by
  have fu : FU = FU - 5 + 1 + 1 + 1 + 1 + 1 := by decide
  have z0 : cnt (nq N 0) 400 = 0 := cnt_zero (fun i _ => nq_0 hN i)
  have st : ∀ n d L, L < 2147483648 → d ≤ 3 → (L < cnt (nq N d) 400 → f_DI_pairAt_4 (n + 1) (nI L) (nI d) σ = some (nI (npr N d L), σ)) ∧ (¬ L < cnt (nq N d) 400 → f_DI_pairAt_4 (n + 1) (nI L) (nI d) σ = f_DI_pairAt_4 n (nI (L - cnt (nq N d) 400)) (nI (d + 1)) σ) := by
    intro n d L hL hd
    rw [f_DI_pairAt_4, if_neg (fun w => by have := (nI_ltI (by decide) (by omega)).mp w; omega)]
    exact s_pairRow hN hT (fun x2 x3 σ => f_DI_pairAt_4 n x2 x3 σ) hL hd
  unfold f_DI_pairAt sel
  rw [fu, (st _ 0 L hL (by decide)).2 (by omega), z0, Nat.sub_zero]
  by_cases q1 : L < cnt (nq N 1) 400
  · rw [if_pos q1, (st _ 1 L hL (by decide)).1 q1]
  · rw [if_neg q1, (st _ 1 L hL (by decide)).2 q1]
    by_cases q2 : L - cnt (nq N 1) 400 < cnt (nq N 2) 400
    · rw [if_pos q2, (st _ 2 _ (by omega) (by decide)).1 q2]
    · rw [if_neg q2, (st _ 2 _ (by omega) (by decide)).2 q2]
      by_cases q3 : L - cnt (nq N 1) 400 - cnt (nq N 2) 400 < cnt (nq N 3) 400
      · rw [if_pos q3, (st _ 3 _ (by omega) (by decide)).1 q3]
      · rw [if_neg q3, (st _ 3 _ (by omega) (by decide)).2 q3, f_DI_pairAt_4, if_pos (by decide)]
/-- what the reference answers for a pair -/
def npa (w d p : Nat) : Int32 := if w = 0 then nI (p / 20) else if w = 1 then nI (p % 20) else nI d
theorem m_nearRow (h : MR σ N) (hm : HM σ N) (hk : CoreOK σ N) (K : Int32 → Int32 → Int32 → Int32 → Sg → Option (Int32 × Sg)) {w L d a : Nat} (hw : w < 3) (hL : L < 2147483648) (hd1 : 1 ≤ d) (hd3 : d ≤ 3) (ha : a < ev N) {x : Sg} (hF : Fr [131, 132] σ x) (hI : cnt (nq N d) (20 * a) ≤ L) :
    (∃ p y, p < 400 ∧ nq N d p = true ∧ cnt (nq N d) p = L ∧ f_MO_near_51 K FU (nI w) (nI (L - cnt (nq N d) (20 * a))) (nI d) (nI a) (nI (a + 1)) x = some (npa w d p, y) ∧ Fr [131, 132] σ y) ∨
    (∃ y, cnt (nq N d) (20 * (a + 1)) ≤ L ∧ f_MO_near_51 K FU (nI w) (nI (L - cnt (nq N d) (20 * a))) (nI d) (nI a) (nI (a + 1)) x = K (nI w) (nI (L - cnt (nq N d) (20 * (a + 1)))) (nI d) (nI (a + 1)) y ∧ Fr [131, 132] σ y) := by
  have hE := h.2.1.2
  have c1 : cnt (nq N d) (20 * a + (a + 1)) = cnt (nq N d) (20 * a) := cnt_flat (by omega) (fun i h1 h2 => by
    rw [show i = 20 * a + (i - 20 * a) by omega]
    exact nq_no (by omega) (by omega))
  have c2 : cnt (nq N d) (20 * (a + 1)) = cnt (nq N d) (20 * a + ev N) := cnt_flat (by omega) (fun i h1 h2 => by
    rw [show i = 20 * a + (i - 20 * a) by omega]
    exact nq_ev h.2 (by omega) (Or.inr (by omega)))
  rw [← c1] at hI
  rw [← c1, c2]
  refine lpE (fun n b (y : Sg) => f_MO_near_51 K n (nI w) (nI (L - cnt (nq N d) (20 * a + b))) (nI d) (nI a) (nI b) y) (ev N) (fun b y => Fr [131, 132] σ y ∧ a + 1 ≤ b ∧ cnt (nq N d) (20 * a + b) ≤ L) (fun R => (∃ p y, p < 400 ∧ nq N d p = true ∧ cnt (nq N d) p = L ∧ R = some (npa w d p, y) ∧ Fr [131, 132] σ y) ∨ (∃ y, cnt (nq N d) (20 * a + ev N) ≤ L ∧ R = K (nI w) (nI (L - cnt (nq N d) (20 * a + ev N))) (nI d) (nI (a + 1)) y ∧ Fr [131, 132] σ y)) ?_ ?_ (ev N - (a + 1)) (a + 1) FU x (by omega) (by unfold FU; omega) ⟨hF, Nat.le_refl _, hI⟩
  · intro n b y hb hJ
    obtain ⟨hG, hab, hc⟩ := hJ
    have hmr := h.fr hG (by decide)
    have hmm := hm.fr hG (by decide)
    have hkk := hk.fr hG (by decide)
    have la := h.2.cl ha
    have lb := h.2.cl hb
    have hB := dI_b N a b
    have es : cnt (nq N d) (20 * a + (b + 1)) = cnt (nq N d) (20 * a + b) + b2n (nq N d (20 * a + b)) := rfl
    have no : nq N d (20 * a + b) = false → ∃ z, (Fr [131, 132] σ z ∧ a + 1 ≤ b + 1 ∧ cnt (nq N d) (20 * a + (b + 1)) ≤ L) ∧ f_MO_near_51 K n (nI w) (nI (L - cnt (nq N d) (20 * a + b))) (nI d) (nI a) (nI (b + 1)) y = f_MO_near_51 K n (nI w) (nI (L - cnt (nq N d) (20 * a + (b + 1)))) (nI d) (nI a) (nI (b + 1)) z := by
      intro q
      rw [q, b2n_f, Nat.add_zero] at es
      rw [es]
      exact ⟨y, ⟨hG, by omega, hc⟩, rfl⟩
    show (_ ∨ _) ∨ ∃ z, _ ∧ f_MO_near_51 K (n + 1) (nI w) (nI (L - cnt (nq N d) (20 * a + b))) (nI d) (nI a) (nI b) y = _
    have nq' : nq N d (20 * a + b) = true ↔ apt N a b = true ∧ dI N a b = d := nq_iff hd3 (by omega) (by omega)
    rw [f_MO_near_51, inb_n (by decide) (by decide), gd_t, nI_clamp (by decide), m_ev hmr, if_neg (nI_ge hb (by omega)), inb_n (by omega) (by omega), gd_t, inb_n (by omega) (by omega), gd_t, nI_clamp (by omega), nI_clamp (by omega), hkk.1 a ha, hkk.1 b hb, lt', m_isN hmr (by omega), bd_s, nI_add, nI_z (cln N a), nI_z (cln N b), zI_sub]
    cases qa : inn N a
    · rw [if_pos (by decide)]
      exact Or.inr (no (by
        cases q : nq N d (20 * a + b)
        · rfl
        · have h2 := (nq'.mp q).1
          unfold apt at h2
          rw [qa] at h2
          cases h2))
    · rw [if_neg (by decide), m_isN hmr (by omega), bd_s]
      cases qb : inn N b
      · rw [if_pos (by decide)]
        exact Or.inr (no (by
          cases q : nq N d (20 * a + b)
          · rfl
          · have h2 := (nq'.mp q).1
            unfold apt at h2
            rw [qa, qb] at h2
            cases h2))
      · have l1 := hd_le N a
        have l2 := hd_le N b
        rw [if_neg (by decide), gd_t, gd_t, hmm a (by omega), hmm b (by omega), hdm_in qa, hdm_in qb]
        by_cases qh : hd N a = hd N b
        · rw [if_pos (by rw [qh])]
          exact Or.inr (no (by
            cases q : nq N d (20 * a + b)
            · rfl
            · have h2 := (nq'.mp q).1
              unfold apt at h2
              rw [decide_eq_true qh, Bool.and_comm] at h2
              cases h2))
        · have hap : apt N a b = true := by unfold apt; rw [qa, qb, decide_eq_false qh]; rfl
          rw [if_neg (fun z => qh ((nI_eq (by omega) (by omega)).mp z)), m_in, bd_s, nI_z d, zI_neg]
          by_cases qd : -(d : Int) ≤ (cln N a : Int) - (cln N b : Int) ∧ (cln N a : Int) - (cln N b : Int) ≤ (d : Int)
          · rw [show (decide (zI (-(d : Int)) ≤ zI ((cln N a : Int) - (cln N b : Int))) && decide (zI ((cln N a : Int) - (cln N b : Int)) ≤ zI (d : Int))) = true by
              rw [decide_eq_true ((zI_le (by omega) (by omega) (by omega) (by omega)).mpr qd.1), decide_eq_true ((zI_le (by omega) (by omega) (by omega) (by omega)).mpr qd.2)]; rfl, if_neg (by decide), ← nI_z d]
            obtain ⟨u, u1, u2⟩ := m_far h.2 hkk ha hb
            rw [u1, bd_s]
            by_cases qe : dI N a b = d
            · have q := nq'.mpr ⟨hap, qe⟩
              rw [if_pos (by rw [qe])]
              by_cases z : L - cnt (nq N d) (20 * a + b) = 0
              · rw [if_pos (by rw [z])]
                refine Or.inl (Or.inl ⟨20 * a + b, u, by omega, q, by omega, ?_, hG.tr u2⟩)
                unfold npa
                rw [(pr_dm (a := a) (b := b) (by omega)).1, (pr_dm (a := a) (b := b) (by omega)).2]
                by_cases w0 : w = 0
                · rw [if_pos (by rw [w0]), if_pos w0]
                · rw [if_neg (fun s => w0 ((nI_eq (by omega) (by decide)).mp s)), if_neg w0]
                  by_cases w1 : w = 1
                  · rw [if_pos (by rw [w1]), if_pos w1]
                  · rw [if_neg (fun s => w1 ((nI_eq (by omega) (by decide)).mp s)), if_neg w1]
              · rw [if_neg (fun s => z ((nI_eq (by omega) (by decide)).mp s)), show nI (L - cnt (nq N d) (20 * a + b)) + (-1) = nI (L - cnt (nq N d) (20 * a + b)) - nI 1 by rw [Int32.sub_eq_add_neg]; rfl, mI_sub, mI_s z]
                rw [q, b2n_t] at es
                refine Or.inr ⟨u, ⟨hG.tr u2, by omega, by omega⟩, ?_⟩
                rw [es, Nat.sub_sub]
            · rw [if_neg (fun z => qe ((nI_eq (by omega) (by omega)).mp z))]
              have q : nq N d (20 * a + b) = false := by
                cases q : nq N d (20 * a + b)
                · rfl
                · exact absurd (nq'.mp q).2 qe
              rw [q, b2n_f, Nat.add_zero] at es
              refine Or.inr ⟨u, ⟨hG.tr u2, by omega, by omega⟩, ?_⟩
              rw [es]; rfl
          · rw [show (decide (zI (-(d : Int)) ≤ zI ((cln N a : Int) - (cln N b : Int))) && decide (zI ((cln N a : Int) - (cln N b : Int)) ≤ zI (d : Int))) = false by
              by_cases s : -(d : Int) ≤ (cln N a : Int) - (cln N b : Int)
              · rw [decide_eq_false (p := zI ((cln N a : Int) - (cln N b : Int)) ≤ zI (d : Int)) (fun t => qd ⟨s, (zI_le (by omega) (by omega) (by omega) (by omega)).mp t⟩), Bool.and_false]
              · rw [decide_eq_false (p := zI (-(d : Int)) ≤ zI ((cln N a : Int) - (cln N b : Int))) (fun t => s ((zI_le (by omega) (by omega) (by omega) (by omega)).mp t))]; rfl, if_pos (by decide), ← nI_z d]
            exact Or.inr (no (by
              cases q : nq N d (20 * a + b)
              · rfl
              · have h2 := (nq'.mp q).2
                omega))
  · intro n y hJ
    obtain ⟨hG, hab, hc⟩ := hJ
    have hmr := h.fr hG (by decide)
    refine Or.inr ⟨y, hc, ?_, hG⟩
    show f_MO_near_51 K (n + 1) (nI w) (nI (L - cnt (nq N d) (20 * a + ev N))) (nI d) (nI a) (nI (ev N)) y = _
    rw [f_MO_near_51, inb_n (by decide) (by decide), gd_t, nI_clamp (by decide), m_ev hmr, if_pos (Int32.le_refl _), nI_add]
theorem m_nearD (h : MR σ N) (hm : HM σ N) (hk : CoreOK σ N) (K : Int32 → Int32 → Int32 → Sg → Option (Int32 × Sg)) {w L d : Nat} (hw : w < 3) (hL : L < 2147483648) (hd1 : 1 ≤ d) (hd : d ≤ 3) {x : Sg} (hF : Fr [131, 132] σ x) :
    ∃ y, Fr [131, 132] σ y ∧ (L < cnt (nq N d) 400 → f_MO_near_34 K FU (nI w) (nI L) (nI d) (nI 0) x = some (npa w d (npr N d L), y)) ∧ (¬ L < cnt (nq N d) 400 → f_MO_near_34 K FU (nI w) (nI L) (nI d) (nI 0) x = K (nI w) (nI (L - cnt (nq N d) 400)) (nI (d + 1)) y) := by
  have hE := h.2.1.2
  have ce : cnt (nq N d) 400 = cnt (nq N d) (20 * ev N) := cnt_flat (by omega) (fun i h1 h2 => by
    rw [show i = 20 * (i / 20) + i % 20 by omega]
    exact nq_ev h.2 (by omega) (Or.inl (by omega)))
  refine lpE (fun n a (y : Sg) => f_MO_near_34 K n (nI w) (nI (L - cnt (nq N d) (20 * a))) (nI d) (nI a) y) (ev N) (fun a y => Fr [131, 132] σ y ∧ cnt (nq N d) (20 * a) ≤ L) (fun R => ∃ y, Fr [131, 132] σ y ∧ (L < cnt (nq N d) 400 → R = some (npa w d (npr N d L), y)) ∧ (¬ L < cnt (nq N d) 400 → R = K (nI w) (nI (L - cnt (nq N d) 400)) (nI (d + 1)) y)) ?_ ?_ (ev N) 0 FU x (by omega) (by unfold FU; omega) ⟨hF, Nat.zero_le _⟩
  · intro n a y ha hJ
    obtain ⟨hG, hc⟩ := hJ
    have hmr := h.fr hG (by decide)
    have ee : f_MO_near_34 K (n + 1) (nI w) (nI (L - cnt (nq N d) (20 * a))) (nI d) (nI a) y = f_MO_near_51 (fun x2 x3 x4 x5 σ => f_MO_near_34 K n x2 x3 x4 x5 σ) FU (nI w) (nI (L - cnt (nq N d) (20 * a))) (nI d) (nI a) (nI (a + 1)) y := by
      rw [f_MO_near_34, inb_n (by decide) (by decide), gd_t, nI_clamp (by decide), m_ev hmr, if_neg (nI_ge ha (by omega)), nI_add, lt']
    rcases m_nearRow h hm hk (fun x2 x3 x4 x5 σ => f_MO_near_34 K n x2 x3 x4 x5 σ) hw hL hd1 hd ha hG hc with ⟨p, z, p1, p2, p3, p4, p5⟩ | ⟨z, p1, p2, p3⟩
    · obtain ⟨k1, k2⟩ := npr_eq p1 p2 p3
      exact Or.inl ⟨z, p5, fun _ => by rw [k1]; exact ee.trans p4, fun s => absurd k2 s⟩
    · exact Or.inr ⟨z, ⟨p3, p1⟩, ee.trans p2⟩
  · intro n y hJ
    obtain ⟨hG, hc⟩ := hJ
    have hmr := h.fr hG (by decide)
    refine ⟨y, hG, fun s => by omega, fun _ => ?_⟩
    show f_MO_near_34 K (n + 1) (nI w) (nI (L - cnt (nq N d) (20 * ev N))) (nI d) (nI (ev N)) y = _
    rw [f_MO_near_34, inb_n (by decide) (by decide), gd_t, nI_clamp (by decide), m_ev hmr, if_pos (Int32.le_refl _), nI_add, ce]
theorem m_nearAll (h : MR σ N) (hm : HM σ N) (hk : CoreOK σ N) {w L : Nat} (hw : w < 3) (hL : L < 2147483648) :
    ∃ y, f_MO_near_25 FU (nI w) (nI L) (nI 1) σ = some (match sel N L with | some (d, p) => npa w d p | none => -5, y) ∧ Fr [131, 132] σ y := by
  have fu : FU = FU - 4 + 1 + 1 + 1 + 1 := by decide
  have st : ∀ n d L (x : Sg), Fr [131, 132] σ x → L < 2147483648 → 1 ≤ d → d ≤ 3 → ∃ y, Fr [131, 132] σ y ∧ (L < cnt (nq N d) 400 → f_MO_near_25 (n + 1) (nI w) (nI L) (nI d) x = some (npa w d (npr N d L), y)) ∧ (¬ L < cnt (nq N d) 400 → f_MO_near_25 (n + 1) (nI w) (nI L) (nI d) x = f_MO_near_25 n (nI w) (nI (L - cnt (nq N d) 400)) (nI (d + 1)) y) := by
    intro n d L x hx hL h1 hd
    rw [f_MO_near_25, if_neg (fun w => by have := (nI_ltI (by decide) (by omega)).mp w; omega)]
    exact m_nearD h hm hk (fun x2 x3 x4 σ => f_MO_near_25 n x2 x3 x4 σ) hw hL h1 hd hx
  unfold sel
  rw [fu]
  obtain ⟨x1, a1, a2, a3⟩ := st (FU - 4 + 1 + 1 + 1) 1 L σ (Fr.rf _ _) hL (by decide) (by decide)
  by_cases q1 : L < cnt (nq N 1) 400
  · rw [if_pos q1]; exact ⟨x1, a2 q1, a1⟩
  · rw [if_neg q1, a3 q1]
    obtain ⟨x2, b1, b2, b3⟩ := st (FU - 4 + 1 + 1) 2 (L - cnt (nq N 1) 400) x1 a1 (by omega) (by decide) (by decide)
    by_cases q2 : L - cnt (nq N 1) 400 < cnt (nq N 2) 400
    · rw [if_pos q2]; exact ⟨x2, b2 q2, b1⟩
    · rw [if_neg q2, b3 q2]
      obtain ⟨x3, c1, c2, c3⟩ := st (FU - 4 + 1) 3 (L - cnt (nq N 1) 400 - cnt (nq N 2) 400) x2 b1 (by omega) (by decide) (by decide)
      by_cases q3 : L - cnt (nq N 1) 400 - cnt (nq N 2) 400 < cnt (nq N 3) 400
      · rw [if_pos q3]; exact ⟨x3, c2 q3, c1⟩
      · rw [if_neg q3, c3 q3, f_MO_near_25, if_pos (by decide)]
        exact ⟨x3, rfl, c1⟩
end PR
