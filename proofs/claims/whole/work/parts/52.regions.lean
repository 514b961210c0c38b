/-! a row that changes in one region only -/
theorem lcn_cong {f g : Rw} : ∀ n, (∀ k, k < n → f k = g k) → lcn f n = lcn g n ∧ ∀ j, crf f n j = crf g n j := by
  intro n
  induction n with
  | zero => intro _; exact ⟨rfl, fun _ => rfl⟩
  | succ n ih =>
    intro h
    obtain ⟨h1, h2⟩ := ih (fun k hk => h k (by omega))
    have e := h n (by omega)
    constructor
    · rw [lcn, lcn, h1, e]
    · intro j
      rw [crf, crf, h1, e, h2 j]
theorem fsti_cong {p q : Nat → Bool} {n : Nat} (h : ∀ k, k < n → p k = q k) : fsti p n = fsti q n := by
  have h1 := fsti_le q n
  by_cases z : fsti q n < n
  · have y := fsti_yes q n z
    exact fsti_eq z (by rw [h _ z]; exact y) (fun j hj => by rw [h j (by omega)]; exact fsti_no q n j hj)
  · have e : fsti q n = n := by omega
    rw [e]
    exact fsti_none (fun j hj => by rw [h j hj]; exact fsti_no q n j (by omega))
def Kp (N N' : Rw) : Prop := ∀ i, i = 0 ∨ (9 ≤ i ∧ i < 29) ∨ (69 ≤ i ∧ i < 1289) → N' i = N i
theorem kp_ev {N N' : Rw} (e : Kp N N') : ev N' = ev N := by unfold ev; rw [e 0 (Or.inl rfl)]
theorem kp_core {N N' : Rw} (hN : InvN N) (e : Kp N N') {c : Nat} (hc : c < ev N) : lng N' c = lng N c ∧ cln N' c = cln N c ∧ ∀ j, crr N' c j = crr N c j := by
  have hE := hN.1.2
  have e1 : lng N' c = lng N c := by unfold lng; rw [e (69 + c) (by omega)]
  have h60 := (hN.2.2.2.1 c hc).2
  obtain ⟨k1, k2⟩ := lcn_cong (f := txt N' c) (g := txt N c) (lng N c) (fun k hk => e _ (by omega))
  refine ⟨e1, ?_, fun j => ?_⟩
  · unfold cln; rw [e1]; exact k1
  · unfold crr; rw [e1]; exact k2 j
theorem kp_alk {N N' : Rw} (hN : InvN N) (e : Kp N N') {a b : Nat} (ha : a < ev N) (hb : b < ev N) : alk N' a b = alk N a b := by
  obtain ⟨-, a1, a2⟩ := kp_core hN e ha
  obtain ⟨-, b1, b2⟩ := kp_core hN e hb
  unfold alk
  rw [a1, b1]
  congr 1
  refine congrArg _ (funext fun j => ?_)
  rw [a2, b2]
theorem kp_fal {N N' : Rw} (hN : InvN N) (e : Kp N N') {c : Nat} (hc : c < ev N) : fal N' c = fal N c := fsti_cong (fun k hk => kp_alk hN e (by omega) hc)
theorem inn_cg {N N' : Rw} {c : Nat} (h : c < 20 → N' (29 + c) = N (29 + c)) : inn N' c = inn N c := by
  unfold inn
  by_cases q : c < 20
  · rw [h q]
  · rw [decide_eq_false q]; rfl
theorem lkd_cg {N N' : Rw} {a : Nat} (h : N' (49 + a) = N (49 + a)) (b : Nat) : lkd N' a b = lkd N a b := by unfold lkd; rw [h]
theorem InvN.up {N N' : Rw} (h : InvN N) (e : Kp N N')
    (hin : ∀ c, c < 20 → N' (29 + c) = bI (inn N' c) ∧ (inn N' c = true → c < ev N))
    (hlk : ∀ c, c < 20 → N' (49 + c) = nI (vN (N' (49 + c))) ∧ vN (N' (49 + c)) < 1048576)
    (hls : ∀ a b, a < 20 → b < 20 → lkd N' a b = lkd N' b a) (hlr : ∀ a, a < 20 → lkd N' a a = false)
    (hw : ∀ i, i < 36 → N' (1289 + i) = nI (wsc N' i) ∧ wsc N' i ≤ ev N)
    (hw2 : ∀ v i j, v < 12 → i < j → j < 3 → wsc N' (3 * v + i) ≠ 0 → wsc N' (3 * v + i) ≠ wsc N' (3 * v + j))
    (hp : ∀ i, i < 60 → N' (1325 + i) = nI (ptc N' i) ∧ ptc N' i ≤ 11)
    (hs : ∀ k, k < 3 → N' (1 + k) = nI (stt N' k)) (hs2 : stt N' 0 ≤ 1 ∧ stt N' 1 ≤ 5 ∧ stt N' 2 ≤ 1)
    (hz : ∀ k, k < 5 → N' (4 + k) = nI (prz N' k) ∧ prz N' k ≤ 999) : InvN N' := by
  have ee := kp_ev e
  refine ⟨⟨by rw [ee, e 0 (Or.inl rfl)]; exact h.1.1, by rw [ee]; exact h.1.2⟩, fun c hc => by rw [ee]; exact hin c hc, fun c hc => by rw [e (9 + c) (by omega)]; exact h.2.2.1 c hc, fun c hc => ?_, hlk, hls, hlr, fun i hi => by rw [ee]; exact hw i hi, hw2, hp, hs, hs2, hz⟩
  rw [ee] at hc
  have hE := h.1.2
  rw [(kp_core h e hc).1, e (69 + c) (by omega)]
  exact h.2.2.2.1 c hc
theorem RelS.up {S S' : Nat → Rw} {N N' : Rw} (h : RelS S N) (hN : InvN N) (e : Kp N N') (eS : ∀ k, k = 0 ∨ (2 ≤ k ∧ k ≤ 7) → S' k = S k)
    (r1 : ∀ c, c < 20 → S' 1 c = N' (29 + c)) (r8 : ∀ a b, a < 20 → b < 20 → S' 8 (20 * a + b) = bI (lkd N' a b))
    (r9 : ∀ i, i < 36 → S' 9 i = wI (wsc N' i)) (r10 : ∀ i, i < 60 → S' 10 i = wI (ptc N' i))
    (r11 : ∀ k, k < 3 → S' 11 k = N' (1 + k)) (r12 : ∀ k, k < 5 → S' 12 k = N' (4 + k)) : RelS S' N' := by
  obtain ⟨h0, h1, h2, h3, h4, h5, h6, h7, h8, h9, h10, h11, h12⟩ := h
  have ee := kp_ev e
  have hE := hN.1.2
  refine ⟨by rw [eS 0 (by omega), e 0 (Or.inl rfl)]; exact h0, r1, fun c hc => by rw [eS 2 (by omega), e (9 + c) (by omega)]; exact h2 c hc, fun c k hc hk => ?_, fun c hc => ?_, fun c j hc hj => ?_, fun c hc => ?_, fun c hc => ?_, r8, r9, r10, r11, r12⟩
  · rw [ee] at hc
    obtain ⟨k1, k2, k3⟩ := kp_core hN e hc
    have h60 := (hN.2.2.2.1 c hc).2
    rw [k1] at hk
    rw [eS 3 (by omega), h3 c k hc hk]
    exact (e _ (by omega)).symm
  · rw [ee] at hc
    rw [eS 4 (by omega), e (69 + c) (by omega)]; exact h4 c hc
  · rw [ee] at hc
    obtain ⟨k1, k2, k3⟩ := kp_core hN e hc
    rw [k2] at hj
    rw [eS 5 (by omega), k3]; exact h5 c j hc hj
  · rw [ee] at hc
    obtain ⟨k1, k2, k3⟩ := kp_core hN e hc
    rw [eS 6 (by omega), k2]; exact h6 c hc
  · rw [ee] at hc
    rw [eS 7 (by omega), kp_fal hN e hc]; exact h7 c hc
/-! regions that stay -/
section ST
variable {N N' : Rw}
theorem st_in (h : InvN N) (e : ∀ c, c < 20 → N' (29 + c) = N (29 + c)) : ∀ c, c < 20 → N' (29 + c) = bI (inn N' c) ∧ (inn N' c = true → c < ev N) := fun c hc => by
  rw [inn_cg (e c), e c hc]; exact h.2.1 c hc
theorem st_lk (h : InvN N) (e : ∀ c, c < 20 → N' (49 + c) = N (49 + c)) : (∀ c, c < 20 → N' (49 + c) = nI (vN (N' (49 + c))) ∧ vN (N' (49 + c)) < 1048576) ∧ (∀ a b, a < 20 → b < 20 → lkd N' a b = lkd N' b a) ∧ ∀ a, a < 20 → lkd N' a a = false :=
  ⟨fun c hc => by rw [e c hc]; exact h.2.2.2.2.1 c hc, fun a b ha hb => by rw [lkd_cg (e a ha), lkd_cg (e b hb)]; exact h.2.2.2.2.2.1 a b ha hb, fun a ha => by rw [lkd_cg (e a ha)]; exact h.2.2.2.2.2.2.1 a ha⟩
theorem st_w (h : InvN N) (e : ∀ i, i < 36 → N' (1289 + i) = N (1289 + i)) : (∀ i, i < 36 → N' (1289 + i) = nI (wsc N' i) ∧ wsc N' i ≤ ev N) ∧ ∀ v i j, v < 12 → i < j → j < 3 → wsc N' (3 * v + i) ≠ 0 → wsc N' (3 * v + i) ≠ wsc N' (3 * v + j) := by
  have ew : ∀ i, i < 36 → wsc N' i = wsc N i := fun i hi => by unfold wsc; rw [e i hi]
  exact ⟨fun i hi => by rw [ew i hi, e i hi]; exact h.2.2.2.2.2.2.2.1 i hi, fun v i j hv hi hj => by rw [ew _ (by omega), ew _ (by omega)]; exact h.2.2.2.2.2.2.2.2.1 v i j hv hi hj⟩
theorem st_p (h : InvN N) (e : ∀ i, i < 60 → N' (1325 + i) = N (1325 + i)) : ∀ i, i < 60 → N' (1325 + i) = nI (ptc N' i) ∧ ptc N' i ≤ 11 := fun i hi => by
  rw [show ptc N' i = ptc N i by unfold ptc; rw [e i hi], e i hi]; exact h.2.2.2.2.2.2.2.2.2.1 i hi
theorem st_s (h : InvN N) (e : ∀ k, k < 3 → N' (1 + k) = N (1 + k)) : (∀ k, k < 3 → N' (1 + k) = nI (stt N' k)) ∧ stt N' 0 ≤ 1 ∧ stt N' 1 ≤ 5 ∧ stt N' 2 ≤ 1 := by
  have es : ∀ k, k < 3 → stt N' k = stt N k := fun k hk => by unfold stt; rw [e k hk]
  exact ⟨fun k hk => by rw [es k hk, e k hk]; exact h.2.2.2.2.2.2.2.2.2.2.1 k hk, by rw [es 0 (by decide), es 1 (by decide), es 2 (by decide)]; exact h.2.2.2.2.2.2.2.2.2.2.2.1⟩
theorem st_z (h : InvN N) (e : ∀ k, k < 5 → N' (4 + k) = N (4 + k)) : ∀ k, k < 5 → N' (4 + k) = nI (prz N' k) ∧ prz N' k ≤ 999 := fun k hk => by
  rw [show prz N' k = prz N k by unfold prz; rw [e k hk], e k hk]; exact h.2.2.2.2.2.2.2.2.2.2.2.2 k hk
end ST
/-! both halves of an operation -/
def Ok2 (f g : Sg → Option (Int32 × Sg)) : Prop := ∀ A σ, OKA A → CI A σ → RI A σ → ∃ A' r y z, OKA A' ∧ f σ = some (r, y) ∧ g y = some (r, z) ∧ CI A' z ∧ RI A' z
def CH (f : Sg → Option (Int32 × Sg)) (A A' : Ab) (r : Int32) : Prop := ∀ σ, CI A σ → ∃ y, f σ = some (r, y) ∧ CI A' y ∧ ∀ c, 112 ≤ c → y c = σ c
def RH (g : Sg → Option (Int32 × Sg)) (A A' : Ab) (r : Int32) : Prop := ∀ σ, RI A σ → ∃ z, g σ = some (r, z) ∧ RI A' z ∧ ∀ c, c < 112 → z c = σ c
theorem CI.low {A : Ab} {σ y : Sg} (hA : OKA A) (h : CI A σ) (e : ∀ c, c < 112 → y c = σ c) : CI A y :=
  CI.cur (N' := A.N) hA h (fun c hc => e c (by omega)) (RelS.cong h.1 (fun k i hk _ => by rw [e k (by omega)]) hA.1.1.2 (fun c hc => (hA.1.2.2.2.1 c hc).2) (fun c hc => hA.1.cl hc))
theorem RI.high {A : Ab} {σ y : Sg} (h : RI A σ) (e : ∀ c, 112 ≤ c → y c = σ c) : RI A y :=
  RI.cur (N' := A.N) h (fun c hc => e c (by omega)) (fun i hi => by rw [e 113 (by omega)]; exact h.1 i hi)
theorem Ok2.mk {f g : Sg → Option (Int32 × Sg)} (h : ∀ A, OKA A → ∃ A' r, OKA A' ∧ CH f A A' r ∧ RH g A A' r) : Ok2 f g := by
  intro A σ hA hC hR
  obtain ⟨A', r, k1, k2, k3⟩ := h A hA
  obtain ⟨y, y1, y2, y3⟩ := k2 σ hC
  obtain ⟨z, z1, z2, z3⟩ := k3 y (hR.high y3)
  exact ⟨A', r, y, z, k1, y1, z1, y2.low k1 z3, z2⟩
/-! arguments -/
theorem i32c (x : Int32) : x < nI 0 ∨ ∃ k, k < 2147483648 ∧ x = nI k := by
  by_cases h : x < nI 0
  · exact Or.inl h
  · obtain ⟨j, hj, e⟩ := nI_of h
    exact Or.inr ⟨j, hj, e⟩
theorem m_inNeg {x : Int32} (σ : Sg) {lo hi : Nat} (hl : lo < 2147483648) (h : x < nI 0) : f_MO_in x (nI lo) (nI hi) σ = some (bI false, σ) := by
  rw [m_in, decide_eq_false (fun w => by
    have h1 : (nI 0 : Int32) ≤ nI lo := (nI_leI (by decide) hl).mpr (Nat.zero_le _)
    exact absurd h (Int32.not_lt.mpr (Int32.le_trans h1 w)))]
  rfl
