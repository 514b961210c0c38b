/-! numbers: the whole numbers as Int32, comparisons with literals, places in rows -/
theorem nI_mul (a k : Nat) : nI a * nI k = nI (a * k) := pk_mul a k
theorem inb_n {a n : Nat} (h : a < n) (ha : a < 2147483648) : inb (nI a) n = true := by
  simp only [inb, Bool.not_eq_true', Bool.or_eq_false_iff, decide_eq_false_iff_not]
  refine ⟨nI_pos ha, ?_⟩
  rw [nI_clamp ha]
  omega
theorem inb_f {a n : Nat} (h : n ≤ a) (ha : a < 2147483648) : inb (nI a) n = false := by
  simp only [inb, Bool.not_eq_false', Bool.or_eq_true, decide_eq_true_eq]
  right
  rw [nI_clamp ha]
  exact h
theorem neI {a : Nat} {z : Int32} (ha : a < 2147483648) (hz : z < 0) : ¬ nI a = z := by
  intro h
  rw [← h] at hz
  exact nI_pos ha hz
theorem ne5a {a : Nat} (ha : a < 2147483648) : (nI a = (-5 : Int32)) ↔ False := ⟨fun h => neI ha (by decide) h, False.elim⟩
theorem ne1a {a : Nat} (ha : a < 2147483648) : (nI a = (-1 : Int32)) ↔ False := ⟨fun h => neI ha (by decide) h, False.elim⟩
theorem upc_s (σ : Sg) (c : Nat) (f : Nat → Int32) : upc σ c f c = f := by simp [upc]
theorem upc_n (σ : Sg) {c x : Nat} (f : Nat → Int32) (h : x ≠ c) : upc σ c f x = σ x := by simp [upc, h]
theorem up_s (σ : Sg) (c i : Nat) (v : Int32) : up σ c i v c = upd (σ c) i v := by simp [up, upc]
theorem up_n (σ : Sg) {c x : Nat} (i : Nat) (v : Int32) (h : x ≠ c) : up σ c i v x = σ x := by simp [up, upc, h]
theorem upd_s (f : Nat → Int32) (i : Nat) (v : Int32) : upd f i v i = v := by simp [upd]
theorem upd_n (f : Nat → Int32) {i j : Nat} (v : Int32) (h : j ≠ i) : upd f i v j = f j := by simp [upd, h]
/-- a truth value as a number -/
def b2n (b : Bool) : Nat := if b = true then 1 else 0
theorem b2n_le (b : Bool) : b2n b ≤ 1 := by cases b <;> decide
def bI (b : Bool) : Int32 := nI (b2n b)
theorem bI_t : bI true = nI 1 := rfl
theorem bI_f : bI false = nI 0 := rfl
theorem bI_0 (b : Bool) : (bI b = nI 0) ↔ b = false := by cases b <;> decide
theorem bI_1 (b : Bool) : (bI b = nI 1) ↔ b = true := by cases b <;> decide
theorem bI_bit (b : Bool) : isbit (bI b) = true := by cases b <;> rfl
/-- only the cells of a list changed -/
def Fr (L : List Nat) (σ σ' : Sg) : Prop := ∀ c, c ∉ L → σ' c = σ c
theorem Fr.rf (L : List Nat) (σ : Sg) : Fr L σ σ := fun _ _ => rfl
theorem Fr.tr {L : List Nat} {a b c : Sg} (h : Fr L a b) (k : Fr L b c) : Fr L a c := fun x hx => (k x hx).trans (h x hx)
theorem Fr.mono {L M : List Nat} {a b : Sg} (h : Fr L a b) (k : ∀ x ∈ L, x ∈ M) : Fr M a b := fun x hx => h x (fun q => hx (k x q))
theorem Fr.up {L : List Nat} {a b : Sg} (h : Fr L a b) {c : Nat} (i : Nat) (v : Int32) (hc : c ∈ L) : Fr L a (up b c i v) := fun x hx => by
  rw [up_n b i v (fun e => hx (by rw [e]; exact hc))]
  exact h x hx
theorem Fr.upc {L : List Nat} {a b : Sg} (h : Fr L a b) {c : Nat} (f : Nat → Int32) (hc : c ∈ L) : Fr L a (upc b c f) := fun x hx => by
  rw [upc_n b f (fun e => hx (by rw [e]; exact hc))]
  exact h x hx
/-- the number of an int of the script, as a place below n: n if it is none -/
def plc (n : Nat) (x : Int32) : Nat := if x < nI 0 ∨ nI n ≤ x then n else x.toNatClampNeg
theorem plc_lt {n : Nat} {x : Int32} (hn : n < 2147483648) (h : plc n x < n) : x = nI (plc n x) := by
  unfold plc at h ⊢
  by_cases q : x < nI 0 ∨ nI n ≤ x
  · rw [if_pos q] at h; omega
  · rw [if_neg q]
    rcases pk_ix x hn with h1 | h1 | ⟨j, hj, e⟩
    · exact absurd (Or.inl h1) q
    · exact absurd (Or.inr h1) q
    · subst e
      rw [nI_clamp (by omega)]
theorem plc_nI {n a : Nat} (hn : n < 2147483648) (h : a < n) : plc n (nI a) = a := by
  unfold plc
  rw [if_neg, nI_clamp (by omega)]
  intro q
  rcases q with q | q
  · exact nI_pos (by omega) q
  · rw [nI_leI hn (by omega)] at q
    omega
theorem plc_le {n : Nat} (hn : n < 2147483648) (x : Int32) : plc n x ≤ n := by
  unfold plc
  by_cases q : x < nI 0 ∨ nI n ≤ x
  · rw [if_pos q]; omega
  · rw [if_neg q]
    rcases pk_ix x hn with h1 | h1 | ⟨j, hj, e⟩
    · exact absurd (Or.inl h1) q
    · exact absurd (Or.inr h1) q
    · subst e
      rw [nI_clamp (by omega)]
      omega
theorem plc_ge {n : Nat} {x : Int32} (hn : n < 2147483648) (h : ¬ plc n x < n) : x < nI 0 ∨ nI n ≤ x := by
  by_cases q : x < nI 0 ∨ nI n ≤ x
  · exact q
  · exfalso
    apply h
    rcases pk_ix x hn with h1 | h1 | ⟨j, hj, e⟩
    · exact absurd (Or.inl h1) q
    · exact absurd (Or.inr h1) q
    · subst e
      rw [plc_nI hn hj]
      exact hj
/-! the small functions of the class -/
theorem neg0 {a : Nat} (h : a < 2147483648) : ¬ nI a < nI 0 := by rw [nI_ltI h (by decide)]; omega
theorem s_idx (σ : Sg) (x : Int32) (n : Nat) (hn : n < 2147483648) : f_CT_isIndex x (nI n) σ = some (bI (decide (plc n x < n)), σ) := by
  unfold f_CT_isIndex
  by_cases h : plc n x < n
  · have e := plc_lt hn h
    rw [e, if_neg (neg0 (by omega)), if_neg (by rw [nI_leI hn (by omega)]; omega), plc_nI hn h]
    simp [h, bI, b2n]
  · rcases plc_ge hn h with q | q
    · rw [if_pos q]; simp [h, bI, b2n]
    · by_cases q2 : x < nI 0
      · rw [if_pos q2]; simp [h, bI, b2n]
      · rw [if_neg q2, if_pos q]; simp [h, bI, b2n]
theorem s_idxN (σ : Sg) (a n : Nat) (ha : a < 2147483648) (hn : n < 2147483648) : f_CT_isIndex (nI a) (nI n) σ = some (bI (decide (a < n)), σ) := by
  unfold f_CT_isIndex
  rw [if_neg (neg0 ha)]
  by_cases h : a < n
  · rw [if_neg (by rw [nI_leI hn ha]; omega)]; simp [h, bI, b2n]
  · rw [if_pos (by rw [nI_leI hn ha]; omega)]; simp [h, bI, b2n]
theorem s_at (σ : Sg) (c n a : Nat) (h : a < n) (hn : n < 2147483648) : f_CT_at c n (nI a) σ = some (σ c a, σ) := by
  unfold f_CT_at
  rw [if_neg (neg0 (by omega)), if_neg (by show ¬ nI n ≤ nI a; rw [nI_leI hn (by omega)]; omega), inb_n h (by omega), gd_t, nI_clamp (by omega)]
theorem s_at5 (σ : Sg) (c n : Nat) : f_CT_at c n (-5) σ = some (-5, σ) := by
  unfold f_CT_at
  rw [if_pos (by decide)]
theorem s_atO (σ : Sg) (c n : Nat) (x : Int32) (hn : n < 2147483648) (h : ¬ plc n x < n) : f_CT_at c n x σ = some (-5, σ) := by
  unfold f_CT_at
  rcases plc_ge hn h with q | q
  · rw [if_pos q]
  · by_cases q2 : x < nI 0
    · rw [if_pos q2]
    · rw [if_neg q2]; exact if_pos q
theorem s_put (σ : Sg) (c n a : Nat) (v : Int32) (h : a < n) (hn : n < 2147483648) : f_CT_put c n (nI a) v σ = some (0, up σ c a v) := by
  unfold f_CT_put
  rw [if_neg (neg0 (by omega)), if_neg (by show ¬ nI n ≤ nI a; rw [nI_leI hn (by omega)]; omega), inb_n h (by omega), gd_t, nI_clamp (by omega)]
  rfl
theorem s_putO (σ : Sg) (c n : Nat) (x v : Int32) (hn : n < 2147483648) (h : ¬ plc n x < n) : f_CT_put c n x v σ = some (0, σ) := by
  unfold f_CT_put
  rcases plc_ge hn h with q | q
  · rw [if_pos q]
  · by_cases q2 : x < nI 0
    · rw [if_pos q2]
    · rw [if_neg q2]; exact if_pos q
/-- a row with its first i places filled -/
theorem s_fill_l (σ : Sg) (c n : Nat) (v : Int32) (hn : n < 2147483648) : ∀ (k i m : Nat) (f : Nat → Int32), i + k = n → k < m → f_AR_fill_5 c n m v (nI i) (nI n) (upc σ c f) = some (0, upc σ c (fun j => if i ≤ j ∧ j < n then v else f j)) := by
  intro k
  induction k with
  | zero =>
    intro i m f hk hm
    obtain ⟨m, rfl⟩ : ∃ z, m = z + 1 := ⟨m - 1, by omega⟩
    rw [f_AR_fill_5, if_pos ((nI_leI hn (by omega)).mpr (by omega))]
    congr 3
    funext j
    rw [if_neg (by omega)]
  | succ k ih =>
    intro i m f hk hm
    obtain ⟨m, rfl⟩ : ∃ z, m = z + 1 := ⟨m - 1, by omega⟩
    rw [f_AR_fill_5, if_neg (by rw [nI_leI hn (by omega)]; omega), inb_n (by omega) (by omega), gd_t, lt', nI_clamp (by omega), nI_add]
    rw [show up (upc σ c f) c i v = upc σ c (upd f i v) by funext x; unfold up; by_cases e : x = c <;> simp [upc, e]]
    rw [ih (i + 1) m (upd f i v) (by omega) (by omega)]
    congr 3
    funext j
    by_cases h1 : j = i
    · subst h1
      rw [if_neg (by omega), if_pos (by omega), upd_s]
    · rw [upd_n _ _ h1]
      by_cases h2 : i + 1 ≤ j ∧ j < n
      · rw [if_pos h2, if_pos (by omega)]
      · rw [if_neg h2, if_neg (by omega)]
theorem upc_id (σ : Sg) (c : Nat) : upc σ c (σ c) = σ := by
  funext x
  unfold upc
  by_cases e : x = c
  · rw [if_pos e, e]
  · rw [if_neg e]
theorem s_fill (σ : Sg) (c n : Nat) (v : Int32) (hn : n < 10000) : f_AR_fill c n v σ = some (0, upc σ c (fun j => if j < n then v else σ c j)) := by
  unfold f_AR_fill
  have h := s_fill_l σ c n v (by omega) n 0 FU (σ c) (by omega) (by unfold FU; omega)
  rw [upc_id] at h
  show f_AR_fill_5 c n FU v (nI 0) (nI n) σ = _
  rw [h]
  congr 3
  funext j
  by_cases q : j < n
  · rw [if_pos q, if_pos (by omega)]
  · rw [if_neg q, if_neg (by omega)]
theorem imin_nI {a b : Nat} (ha : a < 2147483648) (hb : b < 2147483648) : imin (nI a) (nI b) = nI (min a b) := by
  unfold imin
  by_cases h : b < a
  · rw [if_pos ((nI_ltI hb ha).mpr h), Nat.min_eq_right (by omega)]
  · rw [if_neg (by rw [nI_ltI hb ha]; exact h), Nat.min_eq_left (by omega)]
theorem imax_nI {a b : Nat} (ha : a < 2147483648) (hb : b < 2147483648) : imax (nI a) (nI b) = nI (max a b) := by
  unfold imax
  by_cases h : a < b
  · rw [if_pos ((nI_ltI ha hb).mpr h), Nat.max_eq_right (by omega)]
  · rw [if_neg (by rw [nI_ltI ha hb]; exact h), Nat.max_eq_left (by omega)]
theorem s_cpR (σ : Sg) (a b n : Nat) (hn : n < 2147483648) : f_CT_copyRow a n b n σ = some (0, upc σ b (va_cpy' (σ a) (σ b) n)) := by
  unfold f_CT_copyRow
  rw [imin_nI hn hn, Nat.min_self]
  have h : cpok (nI n) n n = true := by
    simp only [cpok, Bool.and_eq_true, Bool.not_eq_true', decide_eq_false_iff_not, decide_eq_true_eq]
    rw [nI_clamp hn]
    exact ⟨nI_pos hn, Nat.le_refl _, Nat.le_refl _⟩
  rw [h, gd_t, lt', nI_clamp hn]
theorem s_cpF (σ : Sg) (a b n : Nat) (hn : n < 2147483648) (hb : bits (σ a) n = true) : f_CT_copyFlags a n b n σ = some (0, upc σ b (va_cpy' (σ a) (σ b) n)) := by
  unfold f_CT_copyFlags
  rw [imin_nI hn hn, Nat.min_self]
  have h : cpok (nI n) n n = true := by
    simp only [cpok, Bool.and_eq_true, Bool.not_eq_true', decide_eq_false_iff_not, decide_eq_true_eq]
    rw [nI_clamp hn]
    exact ⟨nI_pos hn, Nat.le_refl _, Nat.le_refl _⟩
  rw [h, gd_t, nI_clamp hn, hb, gd_t, lt']
theorem if_b {α : Type} {c : Prop} {d : Decidable c} {b : Bool} (h : c ↔ b = true) (x y : α) : (if c then x else y) = if b = true then x else y := by
  cases b with
  | true => rw [if_pos (h.mpr rfl), if_pos rfl]
  | false => rw [if_neg (fun q => by have := h.mp q; cases this), if_neg (by decide)]
/-! loops -/
theorem lpE {α R : Type} (F : Nat → Nat → α → R) (e : Nat) (I : Nat → α → Prop) (Post : R → Prop) (hs : ∀ n i x, i < e → I i x → Post (F (n + 1) i x) ∨ ∃ y, I (i + 1) y ∧ F (n + 1) i x = F n (i + 1) y) (hf : ∀ n x, I e x → Post (F (n + 1) e x)) : ∀ (k i n : Nat) (x : α), i + k = e → k < n → I i x → Post (F n i x) := by
  intro k
  induction k with
  | zero =>
    intro i n x hk hn hI
    obtain ⟨n, rfl⟩ : ∃ z, n = z + 1 := ⟨n - 1, by omega⟩
    rw [Nat.add_zero] at hk
    subst hk
    exact hf n x hI
  | succ k ih =>
    intro i n x hk hn hI
    obtain ⟨n, rfl⟩ : ∃ z, n = z + 1 := ⟨n - 1, by omega⟩
    rcases hs n i x (by omega) hI with h | ⟨y, h1, h2⟩
    · exact h
    · rw [h2]
      exact ih (i + 1) n y (by omega) (by omega) h1
theorem lpI {α R : Type} (F : Nat → Nat → α → R) (e : Nat) (I : Nat → α → Prop) (hs : ∀ n i x, i < e → I i x → ∃ y, I (i + 1) y ∧ F (n + 1) i x = F n (i + 1) y) (i n : Nat) (x : α) (hi : i ≤ e) (hn : e < n + i) (hI : I i x) : ∃ m y, I e y ∧ F n i x = F (m + 1) e y := by
  refine lpE F e I (fun r => ∃ m y, I e y ∧ r = F (m + 1) e y) (fun n i x h1 h2 => Or.inr (hs n i x h1 h2)) (fun n x h => ⟨n, x, h, rfl⟩) (e - i) i n x (by omega) (by omega) hI
/-- the sum of the first n -/
def sm (p : Nat → Nat) : Nat → Nat
  | 0 => 0
  | n + 1 => sm p n + p n
def cnt (p : Nat → Bool) (n : Nat) : Nat := sm (fun i => b2n (p i)) n
theorem sm_cong {p q : Nat → Nat} {n : Nat} (h : ∀ i, i < n → p i = q i) : sm p n = sm q n := by
  induction n with
  | zero => rfl
  | succ n ih => rw [sm, sm, ih (fun i hi => h i (by omega)), h n (by omega)]
theorem cnt_cong {p q : Nat → Bool} {n : Nat} (h : ∀ i, i < n → p i = q i) : cnt p n = cnt q n := sm_cong (fun i hi => by rw [h i hi])
theorem sm_le {p : Nat → Nat} {b : Nat} {n : Nat} (h : ∀ i, i < n → p i ≤ b) : sm p n ≤ b * n := by
  induction n with
  | zero => exact Nat.zero_le _
  | succ n ih =>
    have h1 := ih (fun i hi => h i (by omega))
    have h2 := h n (by omega)
    rw [sm, Nat.mul_succ]
    omega
theorem cnt_le (p : Nat → Bool) (n : Nat) : cnt p n ≤ n := by
  have h := sm_le (p := fun i => b2n (p i)) (b := 1) (n := n) (fun i _ => b2n_le _)
  unfold cnt
  omega
theorem sm_mono (p : Nat → Nat) {m n : Nat} (h : m ≤ n) : sm p m ≤ sm p n := by
  induction n with
  | zero => rw [show m = 0 by omega]; exact Nat.le_refl _
  | succ n ih =>
    rcases Nat.lt_or_ge n m with q | q
    · rw [show m = n + 1 by omega]; exact Nat.le_refl _
    · have := ih q
      rw [sm]
      omega
theorem sm_out {p : Nat → Nat} {m n : Nat} (h : m ≤ n) (h0 : ∀ i, m ≤ i → i < n → p i = 0) : sm p n = sm p m := by
  induction n with
  | zero => rw [show m = 0 by omega]
  | succ n ih =>
    rcases Nat.lt_or_ge n m with q | q
    · rw [show m = n + 1 by omega]
    · rw [sm, ih q (fun i h1 h2 => h0 i h1 (by omega)), h0 n q (by omega)]
      rfl
/-- a loop that only adds up -/
theorem lpS {R : Type} (F : Nat → Nat → Nat → R) (e : Nat) (p : Nat → Nat) (fin : Nat → R) (hs : ∀ n i x, i < e → x = sm p i → F (n + 1) i x = F n (i + 1) (x + p i)) (hf : ∀ n, F (n + 1) e (sm p e) = fin (sm p e)) (n : Nat) (hn : e < n) : F n 0 0 = fin (sm p e) :=
  lpE F e (fun i x => x = sm p i) (fun r => r = fin (sm p e)) (fun n i x hi hx => Or.inr ⟨x + p i, by rw [hx, sm], hs n i x hi hx⟩) (fun n x hx => by rw [hx]; exact hf n) e 0 n 0 (by omega) hn rfl
