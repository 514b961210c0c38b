/-! the start, and any operation by its number -/
section ST0
def N0 : Rw := fun i => if i = 2 then nI 3 else if i = 4 then nI 100 else if i = 5 then nI 50 else if i = 6 then nI 20 else if i = 7 then nI 10 else if i = 8 then nI 5 else nI 0
theorem N0_0 {i : Nat} (h : i < 2 ∨ i = 3 ∨ 9 ≤ i) : N0 i = nI 0 := by
  unfold N0
  rw [if_neg (by omega), if_neg (by omega), if_neg (by omega), if_neg (by omega), if_neg (by omega), if_neg (by omega)]
theorem N0_ev : ev N0 = 0 := by decide
theorem N0_in (c : Nat) : inn N0 c = false := by
  unfold inn
  rw [N0_0 (by omega), decide_eq_false (p := (nI 0 : Int32) = 1) (by decide), Bool.and_false]
theorem N0_lk (a b : Nat) : lkd N0 a b = false := by
  unfold lkd
  rw [N0_0 (by omega)]
  show (0 : Nat).testBit b = false
  exact Nat.zero_testBit b
theorem N0_w (i : Nat) : wsc N0 i = 0 := by
  unfold wsc
  rw [N0_0 (by omega)]
  rfl
theorem N0_p (i : Nat) : ptc N0 i = 0 := by
  unfold ptc
  rw [N0_0 (by omega)]
  rfl
theorem inv_0 : InvN N0 := by
  refine ⟨⟨by decide, by decide⟩, fun c hc => ?_, fun c hc => ?_, fun c hc => ?_, fun c hc => ?_, fun a b _ _ => ?_, fun a _ => N0_lk a a, fun i hi => ?_, fun v i j _ _ _ w => absurd (N0_w _) w, fun i hi => ?_, by decide, by decide, by decide⟩
  · rw [N0_in, N0_0 (by omega)]; exact ⟨rfl, fun w => by cases w⟩
  · rw [N0_0 (by omega)]; exact ⟨rfl, by decide⟩
  · rw [N0_ev] at hc; exact absurd hc (Nat.not_lt_zero _)
  · rw [N0_0 (by omega)]; exact ⟨rfl, by decide⟩
  · rw [N0_lk, N0_lk]
  · rw [N0_w, N0_0 (by omega)]; exact ⟨rfl, Nat.zero_le _⟩
  · rw [N0_p, N0_0 (by omega)]; exact ⟨rfl, Nat.zero_le _⟩
def A0 : Ab := (N0, (0, fun _ => N0), (false, N0), (0, fun _ => 0))
theorem oka_0 : OKA A0 := ⟨inv_0, ⟨Nat.zero_le _, fun i hi => absurd hi (Nat.not_lt_zero _)⟩, (by intro h; cases h), Nat.zero_le _⟩
theorem ci_0 {σ : Sg} (h0 : σ 0 0 = nI 0) (h1 : ∀ c, c < 20 → σ 1 c = nI 0) (h2 : ∀ c, c < 20 → σ 2 c = nI 0) (h8 : ∀ i, i < 400 → σ 8 i = nI 0) (h9 : ∀ i, i < 36 → σ 9 i = -5) (h10 : ∀ i, i < 60 → σ 10 i = -5) (h11 : σ 11 0 = nI 0 ∧ σ 11 1 = nI 3 ∧ σ 11 2 = nI 0) (h12 : σ 12 0 = nI 100 ∧ σ 12 1 = nI 50 ∧ σ 12 2 = nI 20 ∧ σ 12 3 = nI 10 ∧ σ 12 4 = nI 5)
    (h80 : σ 80 1 = nI 0) (h81 : σ 81 0 = nI 26 ∧ σ 81 1 = nI 39 ∧ σ 81 2 = nI 52 ∧ σ 81 3 = nI 65) (h111 : σ 111 4 = nI 0) (h78 : σ 78 1 = nI 0) : CI A0 σ := by
  have no : ∀ {c : Nat} {P : Prop}, c < ev N0 → P := fun {c P} hc => by rw [N0_ev] at hc; exact absurd hc (Nat.not_lt_zero _)
  have rel : RelS σ N0 := by
    refine ⟨h0, fun c hc => by rw [N0_0 (by omega)]; exact h1 c hc, fun c hc => by rw [N0_0 (by omega)]; exact h2 c hc, fun c k hc _ => no hc, fun c hc => no hc, fun c j hc _ => no hc, fun c hc => no hc, fun c hc => no hc, fun a b ha hb => by rw [N0_lk]; exact h8 _ (by omega), fun i hi => by rw [N0_w]; exact h9 i hi, fun i hi => by rw [N0_p]; exact h10 i hi, fun k hk => ?_, fun k hk => ?_⟩
    · rcases (by omega : k = 0 ∨ k = 1 ∨ k = 2) with e | e | e
      · rw [e]; exact h11.1
      · rw [e]; exact h11.2.1
      · rw [e]; exact h11.2.2
    · rcases (by omega : k = 0 ∨ k = 1 ∨ k = 2 ∨ k = 3 ∨ k = 4) with e | e | e | e | e
      · rw [e]; exact h12.1
      · rw [e]; exact h12.2.1
      · rw [e]; exact h12.2.2.1
      · rw [e]; exact h12.2.2.2.1
      · rw [e]; exact h12.2.2.2.2
  have hi : HiC σ 0 (fun _ => N0) := by
    refine ⟨h80, fun i => 26 + 13 * i, fun i hi => ⟨?_, ?_⟩, fun i j _ _ w => ?_, fun i hi => absurd hi (Nat.not_lt_zero _)⟩
    · show 26 + 13 * i = 26 ∨ 26 + 13 * i = 39 ∨ 26 + 13 * i = 52 ∨ 26 + 13 * i = 65
      omega
    · rcases (by omega : i = 0 ∨ i = 1 ∨ i = 2 ∨ i = 3) with e | e | e | e
      · rw [e]; exact h81.1
      · rw [e]; exact h81.2.1
      · rw [e]; exact h81.2.2.1
      · rw [e]; exact h81.2.2.2
    · have w : 26 + 13 * i = 26 + 13 * j := w
      omega
  exact ⟨rel, hi, ⟨h111, (by intro h; cases h)⟩, h78, fun k hk => absurd hk (Nat.not_lt_zero _)⟩
theorem ri_0 {σ : Sg} (h113 : ∀ i, i < 1385 → σ 113 i = N0 i) (h4 : σ 112 4 = nI 0) (h5 : σ 112 5 = nI 0) (h6 : σ 112 6 = nI 0) : RI A0 σ :=
  ⟨h113, ⟨h4, fun i j hi => absurd hi (Nat.not_lt_zero _)⟩, ⟨h6, (by intro h; cases h)⟩, h5, fun k hk => absurd hk (Nat.not_lt_zero _)⟩
/-- contents that both halves hold -/
def Inv (σ : Sg) : Prop := ∃ A, OKA A ∧ CI A σ ∧ RI A σ
theorem Ok2.inv {f g : Sg → Option (Int32 × Sg)} (h : Ok2 f g) {σ : Sg} (hI : Inv σ) : ∃ r y z, f σ = some (r, y) ∧ g y = some (r, z) ∧ Inv z := by
  obtain ⟨A, a1, a2, a3⟩ := hI
  obtain ⟨A', r, y, z, k1, k2, k3, k4, k5⟩ := h A σ a1 a2 a3
  exact ⟨r, y, z, k2, k3, A', k1, k4, k5⟩
end ST0
