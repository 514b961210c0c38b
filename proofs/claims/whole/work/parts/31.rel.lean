/-! the reference's row of a state, read as a contest -/
def vN (x : Int32) : Nat := x.toNatClampNeg
abbrev Rw : Type := Nat → Int32
def ev (N : Rw) : Nat := vN (N 0)
def inn (N : Rw) (c : Nat) : Bool := decide (c < 20) && decide (N (29 + c) = 1)
def isLb (x : Int32) : Bool := (decide (nI 97 ≤ x) && decide (x ≤ nI 122)) || (decide (nI 65 ≤ x) && decide (x ≤ nI 90))
def smf (x : Int32) : Int32 := if nI 65 ≤ x ∧ x ≤ nI 90 then x - nI 65 + nI 97 else x
/-- how many letters stand among the first n signs, and which the j-th one is -/
def lcn (f : Rw) : Nat → Nat
  | 0 => 0
  | n + 1 => lcn f n + b2n (isLb (f n))
def crf (f : Rw) : Nat → Nat → Int32
  | 0, _ => 0
  | n + 1, j => if isLb (f n) = true ∧ j = lcn f n then smf (f n) else crf f n j
def txt (N : Rw) (c k : Nat) : Int32 := N (89 + 60 * c + k)
def lng (N : Rw) (c : Nat) : Nat := vN (N (69 + c))
def cln (N : Rw) (c : Nat) : Nat := lcn (txt N c) (lng N c)
def crr (N : Rw) (c j : Nat) : Int32 := crf (txt N c) (lng N c) j
def alk (N : Rw) (a b : Nat) : Bool := decide (cln N a = cln N b) && (List.range (cln N a)).all (fun j => decide (crr N a j = crr N b j))
def lkd (N : Rw) (a b : Nat) : Bool := (vN (N (49 + a))).testBit b
def tie (N : Rw) (a b : Nat) : Bool := lkd N a b || alk N a b
def hasL (N : Rw) (a : Nat) : Bool := !(decide (vN (N (49 + a)) = 0))
def wsc (N : Rw) (i : Nat) : Nat := vN (N (1289 + i))
def ptc (N : Rw) (i : Nat) : Nat := vN (N (1325 + i))
def stt (N : Rw) (k : Nat) : Nat := vN (N (1 + k))
def prz (N : Rw) (k : Nat) : Nat := vN (N (4 + k))
def wI (n : Nat) : Int32 := if n = 0 then -5 else nI (n - 1)
/-- the first place below n that has a property, n if none -/
def fsti (p : Nat → Bool) : Nat → Nat
  | 0 => 0
  | n + 1 => if fsti p n < n then fsti p n else if p n = true then n else n + 1
def fal (N : Rw) (c : Nat) : Nat := fsti (fun a => alk N a c) c
/-- a row that a contest can have -/
def InvN (N : Rw) : Prop :=
  (N 0 = nI (ev N) ∧ ev N ≤ 20) ∧
  (∀ c, c < 20 → N (29 + c) = bI (inn N c) ∧ (inn N c = true → c < ev N)) ∧
  (∀ c, c < 20 → N (9 + c) = nI (vN (N (9 + c))) ∧ vN (N (9 + c)) < 10) ∧
  (∀ c, c < ev N → N (69 + c) = nI (lng N c) ∧ lng N c ≤ 60) ∧
  (∀ c, c < 20 → N (49 + c) = nI (vN (N (49 + c))) ∧ vN (N (49 + c)) < 1048576) ∧
  (∀ a b, a < 20 → b < 20 → lkd N a b = lkd N b a) ∧ (∀ a, a < 20 → lkd N a a = false) ∧
  (∀ i, i < 36 → N (1289 + i) = nI (wsc N i) ∧ wsc N i ≤ ev N) ∧
  (∀ v i j, v < 12 → i < j → j < 3 → wsc N (3 * v + i) ≠ 0 → wsc N (3 * v + i) ≠ wsc N (3 * v + j)) ∧
  (∀ i, i < 60 → N (1325 + i) = nI (ptc N i) ∧ ptc N i ≤ 11) ∧
  (∀ k, k < 3 → N (1 + k) = nI (stt N k)) ∧ (stt N 0 ≤ 1 ∧ stt N 1 ≤ 5 ∧ stt N 2 ≤ 1) ∧
  (∀ k, k < 5 → N (4 + k) = nI (prz N k) ∧ prz N k ≤ 999)
/-- the class's rows of a state tell the same contest -/
def RelS (S : Nat → Rw) (N : Rw) : Prop :=
  S 0 0 = N 0 ∧ (∀ c, c < 20 → S 1 c = N (29 + c)) ∧ (∀ c, c < 20 → S 2 c = N (9 + c)) ∧
  (∀ c k, c < ev N → k < lng N c → S 3 (60 * c + k) = txt N c k) ∧ (∀ c, c < ev N → S 4 c = N (69 + c)) ∧
  (∀ c j, c < ev N → j < cln N c → S 5 (60 * c + j) = crr N c j) ∧ (∀ c, c < ev N → S 6 c = nI (cln N c)) ∧
  (∀ c, c < ev N → S 7 c = nI (fal N c)) ∧ (∀ a b, a < 20 → b < 20 → S 8 (20 * a + b) = bI (lkd N a b)) ∧
  (∀ i, i < 36 → S 9 i = wI (wsc N i)) ∧ (∀ i, i < 60 → S 10 i = wI (ptc N i)) ∧
  (∀ k, k < 3 → S 11 k = N (1 + k)) ∧ (∀ k, k < 5 → S 12 k = N (4 + k))
/-- the contents of the current state, in the class and in the reference -/
def QS (σ : Sg) (N : Rw) : Prop := True ∧ InvN N ∧ RelS (fun k => σ k) N
theorem RelS.cong {S S' : Nat → Rw} {N : Rw} (h : RelS S N) (he : ∀ k i, k < 13 → i < (kdS.getD k (0, 0)).2 → S' k i = S k i) (hN : ev N ≤ 20) (hl : ∀ c, c < ev N → lng N c ≤ 60) (hc : ∀ c, c < ev N → cln N c ≤ 60) : RelS S' N := by
  obtain ⟨h0, h1, h2, h3, h4, h5, h6, h7, h8, h9, h10, h11, h12⟩ := h
  refine ⟨(he 0 0 (by omega) (by decide)).trans h0, fun c q => (he 1 c (by omega) q).trans (h1 c q), fun c q => (he 2 c (by omega) q).trans (h2 c q), fun c k q r => (he 3 _ (by omega) ?_).trans (h3 c k q r), fun c q => (he 4 c (by omega) ?_).trans (h4 c q), fun c k q r => (he 5 _ (by omega) ?_).trans (h5 c k q r), fun c q => (he 6 c (by omega) ?_).trans (h6 c q), fun c q => (he 7 c (by omega) ?_).trans (h7 c q), fun a b q r => (he 8 _ (by omega) ?_).trans (h8 a b q r), fun i q => (he 9 i (by omega) q).trans (h9 i q), fun i q => (he 10 i (by omega) q).trans (h10 i q), fun i q => (he 11 i (by omega) q).trans (h11 i q), fun i q => (he 12 i (by omega) q).trans (h12 i q)⟩
  · have := hl c q
    show 60 * c + k < 1200
    omega
  · show c < 20
    omega
  · have := hc c q
    show 60 * c + k < 1200
    omega
  · show c < 20
    omega
  · show c < 20
    omega
  · show 20 * a + b < 400
    omega
theorem lcn_le (f : Rw) (n : Nat) : lcn f n ≤ n := by
  induction n with
  | zero => exact Nat.le_refl _
  | succ n ih =>
    have := b2n_le (isLb (f n))
    rw [lcn]
    omega
theorem InvN.cl {N : Rw} (h : InvN N) {c : Nat} (hc : c < ev N) : cln N c ≤ 60 := Nat.le_trans (lcn_le _ _) (h.2.2.2.1 c hc).2
theorem InvN.in_lt {N : Rw} (h : InvN N) {c : Nat} (hc : inn N c = true) : c < 20 ∧ c < ev N := by
  have h1 : c < 20 := by
    simp only [inn, Bool.and_eq_true, decide_eq_true_eq] at hc
    exact hc.1
  exact ⟨h1, (h.2.1 c h1).2 hc⟩
theorem inn_20 (N : Rw) {c : Nat} (h : 20 ≤ c) : inn N c = false := by
  simp only [inn, Bool.and_eq_false_iff, decide_eq_false_iff_not]
  exact Or.inl (by omega)
/-- frames: what leaves the state's cells and the reference's row -/
theorem QS.fr {σ σ' : Sg} {N : Rw} {L : List Nat} (h : QS σ N) (hf : Fr L σ σ') (hL : L.all (fun c => decide (13 ≤ c)) = true) : QS σ' N := by
  have key : ∀ c, c < 13 → σ' c = σ c := by
    intro c hc
    refine hf c (fun q => ?_)
    have := List.all_eq_true.mp hL c q
    simp only [decide_eq_true_eq] at this
    omega
  refine ⟨trivial, h.2.1, ?_⟩
  refine RelS.cong h.2.2 (fun k i hk _ => by rw [key k hk]) h.2.1.1.2 (fun c hc => (h.2.1.2.2.2.1 c hc).2) (fun c hc => h.2.1.cl hc)
/-! readers of the class's state -/
section RD
variable {σ : Sg} {N : Rw}
theorem r_isIn (h : QS σ N) (x : Int32) : f_ST_isIn x σ = some (bI (inn N (plc 20 x)), σ) := by
  unfold f_ST_isIn
  rw [s_idx _ _ _ (by decide), bd_s]
  by_cases q : plc 20 x < 20
  · have e := plc_lt (by decide) q
    have h1 : σ 1 (plc 20 x) = bI (inn N (plc 20 x)) := (h.2.2.2.1 _ q).trans (h.2.1.2.1 _ q).1
    rw [decide_eq_true q, if_neg (by decide), e, inb_n q (by omega), gd_t, nI_clamp (by omega), plc_nI (by decide) q, h1]
    cases inn N (plc 20 x) <;> rfl
  · rw [decide_eq_false q, if_pos (by decide), inn_20 N (by omega)]
    rfl
theorem r_isInN (h : QS σ N) (c : Nat) (hc : c < 20) : f_ST_isIn (nI c) σ = some (bI (inn N c), σ) := by
  rw [r_isIn h, plc_nI (by decide) hc]
theorem r_in (h : QS σ N) {x : Int32} (hx : inn N (plc 20 x) = true) : ∃ c, c < 20 ∧ c < ev N ∧ x = nI c ∧ inn N c = true := by
  have h1 := h.2.1.in_lt hx
  exact ⟨plc 20 x, h1.1, h1.2, plc_lt (by decide) h1.1, hx⟩
theorem r_wish (h : QS σ N) {v w : Nat} (hv : v < 12) (hw : w < 3) : f_ST_wish (nI v) (nI w) σ = some (wI (wsc N (3 * v + w)), σ) := by
  unfold f_ST_wish
  simp (disch := omega) only [nI_leI, nI_ltI, nI_eq, nI_add, nI_mul, inb_n, nI_clamp, ne5a, ne1a]
  rw [s_at _ _ _ _ (by omega) (by decide), bd_s, show v * 3 + w = 3 * v + w by omega, show σ 9 (3 * v + w) = wI (wsc N (3 * v + w)) from h.2.2.2.2.2.2.2.2.2.2.2.1 _ (by omega)]
theorem r_points (h : QS σ N) {j c : Nat} (hj : j < 3) (hc : c < 20) : f_ST_pointsBy (nI j) (nI c) σ = some (wI (ptc N (20 * j + c)), σ) := by
  unfold f_ST_pointsBy
  simp (disch := omega) only [nI_leI, nI_ltI, nI_eq, nI_add, nI_mul, inb_n, nI_clamp, ne5a, ne1a]
  rw [s_at _ _ _ _ (by omega) (by decide), bd_s, show j * 20 + c = 20 * j + c by omega, show σ 10 (20 * j + c) = wI (ptc N (20 * j + c)) from h.2.2.2.2.2.2.2.2.2.2.2.2.1 _ (by omega)]
theorem r_linked (h : QS σ N) {a b : Nat} (ha : a < 20) (hb : b < 20) : f_ST_areLinked (nI a) (nI b) σ = some (bI (lkd N a b), σ) := by
  unfold f_ST_areLinked
  rw [s_idxN _ _ _ (by omega) (by decide), bd_s, decide_eq_true ha, if_neg (by decide), s_idxN _ _ _ (by omega) (by decide), bd_s, decide_eq_true hb, if_neg (by decide)]
  simp (disch := omega) only [nI_leI, nI_ltI, nI_eq, nI_add, nI_mul, inb_n, nI_clamp, ne5a, ne1a, gd_t]
  rw [show a * 20 + b = 20 * a + b by omega, show σ 8 (20 * a + b) = bI (lkd N a b) from h.2.2.2.2.2.2.2.2.2.2.1 _ _ ha hb]
  cases lkd N a b <;> rfl
end RD
