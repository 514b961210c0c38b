/-! what both halves keep: the contest, its history, its snapshot, the draft -/
abbrev Ab : Type := Rw × (Nat × (Nat → Rw)) × (Bool × Rw) × (Nat × Rw)
abbrev Ab.N (A : Ab) : Rw := A.1
abbrev Ab.n (A : Ab) : Nat := A.2.1.1
abbrev Ab.M (A : Ab) : Nat → Rw := A.2.1.2
abbrev Ab.b (A : Ab) : Bool := A.2.2.1.1
abbrev Ab.S (A : Ab) : Rw := A.2.2.1.2
abbrev Ab.d (A : Ab) : Nat := A.2.2.2.1
abbrev Ab.D (A : Ab) : Rw := A.2.2.2.2
def OKA (A : Ab) : Prop := InvN A.N ∧ (A.n ≤ 4 ∧ ∀ i, i < A.n → InvN (A.M i)) ∧ (A.b = true → InvN A.S) ∧ A.d ≤ 60
def HiC (σ : Sg) (n : Nat) (M : Nat → Rw) : Prop := σ 80 1 = nI n ∧ ∃ T : Nat → Nat, (∀ i, i < 4 → (T i = 26 ∨ T i = 39 ∨ T i = 52 ∨ T i = 65) ∧ σ 81 i = nI (T i)) ∧ (∀ i j, i < 4 → j < 4 → T i = T j → i = j) ∧ ∀ i, i < n → RelS (fun k => σ (T i + k)) (M i)
def HiM (σ : Sg) (n : Nat) (M : Nat → Rw) : Prop := σ 112 4 = nI n ∧ ∀ i j, i < n → j < 1385 → σ 115 (1385 * i + j) = M i j
def CI (A : Ab) (σ : Sg) : Prop := RelS (fun k => σ k) A.N ∧ HiC σ A.n A.M ∧ (σ 111 4 = bI A.b ∧ (A.b = true → RelS (fun k => σ (13 + k)) A.S)) ∧ σ 78 1 = nI A.d ∧ ∀ k, k < A.d → σ 79 k = A.D k
def RI (A : Ab) (σ : Sg) : Prop := (∀ i, i < 1385 → σ 113 i = A.N i) ∧ HiM σ A.n A.M ∧ (σ 112 6 = bI A.b ∧ (A.b = true → ∀ i, i < 1385 → σ 114 i = A.S i)) ∧ σ 112 5 = nI A.d ∧ ∀ k, k < A.d → σ 116 k = A.D k
theorem CI.qs {A : Ab} {σ : Sg} (hA : OKA A) (h : CI A σ) : QS σ A.N := ⟨trivial, hA.1, h.1⟩
theorem RI.mr {A : Ab} {σ : Sg} (hA : OKA A) (h : RI A σ) : MR σ A.N := ⟨h.1, hA.1⟩
theorem RelS.bl {x y : Sg} {t : Nat} {N : Rw} (hN : InvN N) (h : RelS (fun k => x (t + k)) N) (e : ∀ k, k < 13 → y (t + k) = x (t + k)) : RelS (fun k => y (t + k)) N :=
  RelS.cong h (fun k i hk _ => by rw [e k hk]) hN.1.2 (fun c hc => (hN.2.2.2.1 c hc).2) (fun c hc => hN.cl hc)
theorem CI.fr {A : Ab} {σ σ' : Sg} {L : List Nat} (hA : OKA A) (h : CI A σ) (hF : Fr L σ σ') (hL : L.all (fun c => decide (82 ≤ c) && !(c == 111)) = true) : CI A σ' := by
  have e : ∀ c, c < 82 ∨ c = 111 → σ' c = σ c := by
    intro c hc
    refine hF c (fun q => ?_)
    have := List.all_eq_true.mp hL c q
    simp at this
    omega
  obtain ⟨h1, ⟨h2, T, h3, h4, h5⟩, ⟨h6, h7⟩, h8, h9⟩ := h
  refine ⟨(QS.fr ⟨trivial, hA.1, h1⟩ hF ?_).2.2, ⟨by rw [e 80 (by omega)]; exact h2, T, fun i hi => by rw [e 81 (by omega)]; exact h3 i hi, h4, fun i hi => RelS.bl (hA.2.1.2 i hi) (h5 i hi) (fun k hk => e _ ?_)⟩, ⟨by rw [e 111 (by omega)]; exact h6, fun hb => RelS.bl (hA.2.2.1 hb) (h7 hb) (fun k hk => e _ (by omega))⟩, by rw [e 78 (by omega)]; exact h8, fun k hk => by rw [e 79 (by omega)]; exact h9 k hk⟩
  · refine List.all_eq_true.mpr (fun c hc => ?_)
    have := List.all_eq_true.mp hL c hc
    simp at this ⊢
    omega
  · have := (h3 i (by have := hA.2.1.1; omega)).1
    omega
theorem RI.fr {A : Ab} {σ σ' : Sg} {L : List Nat} (h : RI A σ) (hF : Fr L σ σ') (hL : L.all (fun c => !(c == 113) && !(c == 114) && !(c == 115) && !(c == 116)) = true) (h112 : ∀ i, i ≠ 23 → σ' 112 i = σ 112 i) : RI A σ' := by
  have e : ∀ c, c = 113 ∨ c = 114 ∨ c = 115 ∨ c = 116 → σ' c = σ c := by
    intro c hc
    refine hF c (fun q => ?_)
    have := List.all_eq_true.mp hL c q
    simp at this
    omega
  obtain ⟨h1, ⟨h2, h3⟩, ⟨h4, h5⟩, h6, h7⟩ := h
  exact ⟨fun i hi => by rw [e 113 (by omega)]; exact h1 i hi, ⟨by rw [h112 4 (by decide)]; exact h2, fun i j hi hj => by rw [e 115 (by omega)]; exact h3 i j hi hj⟩, ⟨by rw [h112 6 (by decide)]; exact h4, fun hb i hi => by rw [e 114 (by omega)]; exact h5 hb i hi⟩, by rw [h112 5 (by decide)]; exact h6, fun k hk => by rw [e 116 (by omega)]; exact h7 k hk⟩
/-! copies of a state -/
theorem RelS.cong2 {S S' : Nat → Rw} {N : Rw} (h : RelS S N) (he : ∀ k i, k < 13 → i < (kdS.getD k (0, 0)).2 → (k = 0 → i = 0) → S' k i = S k i) (hN : ev N ≤ 20) (hl : ∀ c, c < ev N → lng N c ≤ 60) (hc : ∀ c, c < ev N → cln N c ≤ 60) : RelS S' N := by
  obtain ⟨h0, h1, h2, h3, h4, h5, h6, h7, h8, h9, h10, h11, h12⟩ := h
  refine ⟨(he 0 0 (by omega) (by decide) (fun _ => rfl)).trans h0, fun c q => (he 1 c (by omega) q (by omega)).trans (h1 c q), fun c q => (he 2 c (by omega) q (by omega)).trans (h2 c q), fun c k q r => (he 3 _ (by omega) ?_ (by omega)).trans (h3 c k q r), fun c q => (he 4 c (by omega) ?_ (by omega)).trans (h4 c q), fun c k q r => (he 5 _ (by omega) ?_ (by omega)).trans (h5 c k q r), fun c q => (he 6 c (by omega) ?_ (by omega)).trans (h6 c q), fun c q => (he 7 c (by omega) ?_ (by omega)).trans (h7 c q), fun a b q r => (he 8 _ (by omega) ?_ (by omega)).trans (h8 a b q r), fun i q => (he 9 i (by omega) q (by omega)).trans (h9 i q), fun i q => (he 10 i (by omega) q (by omega)).trans (h10 i q), fun i q => (he 11 i (by omega) q (by omega)).trans (h11 i q), fun i q => (he 12 i (by omega) q (by omega)).trans (h12 i q)⟩
  · have := hl c q
    show 60 * c + k < 1200
    omega
  · show c < 20
    omega
  · have := hc c q
    show 60 * c + k < 1200
    omega
  · show c < 20
    omega
  · show c < 20
    omega
  · show 20 * a + b < 400
    omega
def kl (j : Nat) : Nat := (kdS.getD j (0, 0)).2
def CP (σ : Sg) (a0 a1 k : Nat) (x : Sg) : Prop := (∀ c, c < a0 ∨ a0 + k ≤ c → x c = σ c) ∧ ∀ j i, j < k → i < kl j → (j = 0 → i = 0) → x (a0 + j) i = σ (a1 + j) i
theorem cp_step {σ x : Sg} {a0 a1 k n : Nat} (h : CP σ a0 a1 k x) (hd : a1 + 13 ≤ a0 ∨ a0 + 13 ≤ a1) (hk : k < 13) (hk0 : 0 < k) (hn : kl k = n) : CP σ a0 a1 (k + 1) (upc x (a0 + k) (va_cpy' (x (a1 + k)) (x (a0 + k)) n)) := by
  refine ⟨fun c hc => ?_, fun j i hj hi h0 => ?_⟩
  · rw [upc_n _ _ (by omega)]; exact h.1 c (by omega)
  · by_cases z : j = k
    · rw [z, upc_s]
      unfold va_cpy'
      rw [z, hn] at hi
      rw [if_pos hi, h.1 (a1 + k) (by omega)]
    · rw [upc_n _ _ (by omega)]; exact h.2 j i (by omega) hi h0
theorem cp_row {σ x : Sg} {a0 a1 k n : Nat} (h : CP σ a0 a1 k x) (hd : a1 + 13 ≤ a0 ∨ a0 + 13 ≤ a1) (hk : k < 13) (hk0 : 0 < k) (hn : kl k = n) (h31 : n < 2147483648) : ∃ y, f_CT_copyRow (a1 + k) n (a0 + k) n x = some (0, y) ∧ CP σ a0 a1 (k + 1) y := ⟨_, s_cpR x (a1 + k) (a0 + k) n h31, cp_step h hd hk hk0 hn⟩
theorem cp_fl {σ x : Sg} {a0 a1 k n : Nat} (h : CP σ a0 a1 k x) (hd : a1 + 13 ≤ a0 ∨ a0 + 13 ≤ a1) (hk : k < 13) (hk0 : 0 < k) (hn : kl k = n) (h31 : n < 2147483648) (hb : bits (σ (a1 + k)) n = true) : ∃ y, f_CT_copyFlags (a1 + k) n (a0 + k) n x = some (0, y) ∧ CP σ a0 a1 (k + 1) y := ⟨_, s_cpF x (a1 + k) (a0 + k) n h31 (by rw [h.1 (a1 + k) (by omega)]; exact hb), cp_step h hd hk hk0 hn⟩
theorem bits_bI {f : Nat → Int32} {n : Nat} (h : ∀ i, i < n → ∃ b, f i = bI b) : bits f n = true := by
  refine List.all_eq_true.mpr (fun i hi => ?_)
  obtain ⟨b, hb⟩ := h i (List.mem_range.mp hi)
  rw [hb]
  cases b <;> rfl
theorem c_copy {σ : Sg} {a0 a1 : Nat} {N : Rw} (hN : InvN N) (hR : RelS (fun k => σ (a1 + k)) N) (hd : a1 + 13 ≤ a0 ∨ a0 + 13 ≤ a1) : ∃ y, f_ST_copyFrom a0 a1 σ = some (0, y) ∧ (∀ c, c < a0 ∨ a0 + 13 ≤ c → y c = σ c) ∧ RelS (fun k => y (a0 + k)) N := by
  have b1 : bits (σ (a1 + 1)) 20 = true := bits_bI (fun i hi => ⟨inn N i, (hR.2.1 i hi).trans (hN.2.1 i hi).1⟩)
  have b8 : bits (σ (a1 + 8)) 400 = true := bits_bI (fun i hi => ⟨lkd N (i / 20) (i % 20), by
    have := hR.2.2.2.2.2.2.2.2.1 (i / 20) (i % 20) (by omega) (by omega)
    rw [show 20 * (i / 20) + i % 20 = i by omega] at this
    exact this⟩)
  unfold f_ST_copyFrom
  have h1 : CP σ a0 a1 1 (up σ a0 0 (σ a1 0)) := by
    refine ⟨fun c hc => up_n _ _ _ (by omega), fun j i hj hi h0 => ?_⟩
    have e1 : j = 0 := by omega
    rw [e1, h0 e1]
    show up σ a0 0 (σ a1 0) a0 0 = σ a1 0
    rw [up_s, upd_s]
  rw [lt']
  obtain ⟨x2, e2, h2⟩ := cp_fl h1 hd (by decide) (by decide) (by rfl) (by decide) b1
  rw [e2, bd_s]
  obtain ⟨x3, e3, h3⟩ := cp_row h2 hd (by decide) (by decide) (n := 20) (by rfl) (by decide)
  rw [e3, bd_s]
  obtain ⟨x4, e4, h4⟩ := cp_row h3 hd (by decide) (by decide) (n := 1200) (by rfl) (by decide)
  rw [e4, bd_s]
  obtain ⟨x5, e5, h5⟩ := cp_row h4 hd (by decide) (by decide) (n := 20) (by rfl) (by decide)
  rw [e5, bd_s]
  obtain ⟨x6, e6, h6⟩ := cp_row h5 hd (by decide) (by decide) (n := 1200) (by rfl) (by decide)
  rw [e6, bd_s]
  obtain ⟨x7, e7, h7⟩ := cp_row h6 hd (by decide) (by decide) (n := 20) (by rfl) (by decide)
  rw [e7, bd_s]
  obtain ⟨x8, e8, h8⟩ := cp_row h7 hd (by decide) (by decide) (n := 20) (by rfl) (by decide)
  rw [e8, bd_s]
  obtain ⟨x9, e9, h9⟩ := cp_fl h8 hd (by decide) (by decide) (n := 400) (by rfl) (by decide) b8
  rw [e9, bd_s]
  obtain ⟨x10, e10, h10⟩ := cp_row h9 hd (by decide) (by decide) (n := 36) (by rfl) (by decide)
  rw [e10, bd_s]
  obtain ⟨x11, e11, h11⟩ := cp_row h10 hd (by decide) (by decide) (n := 60) (by rfl) (by decide)
  rw [e11, bd_s]
  obtain ⟨x12, e12, h12⟩ := cp_row h11 hd (by decide) (by decide) (n := 3) (by rfl) (by decide)
  rw [e12, bd_s]
  obtain ⟨x13, e13, h13⟩ := cp_row h12 hd (by decide) (by decide) (n := 5) (by rfl) (by decide)
  rw [e13, bd_s]
  refine ⟨x13, rfl, fun c hc => h13.1 c hc, ?_⟩
  obtain ⟨r0, r⟩ := hR
  have g0 : x13 (a0 + 0) 0 = N 0 := (h13.2 0 0 (by decide) (by decide) (fun _ => rfl)).trans r0
  exact RelS.cong2 (S := fun k => σ (a1 + k)) ⟨r0, r⟩ (fun k i hk hi h0 => h13.2 k i hk hi h0) hN.1.2 (fun c hc => (hN.2.2.2.1 c hc).2) (fun c hc => hN.cl hc)
