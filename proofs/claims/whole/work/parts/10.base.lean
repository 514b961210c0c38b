/-! the contents of the cells: a row of numbers for each cell, by the cell's number -/
abbrev Sg : Type := Nat → Nat → Int32
def upc (σ : Sg) (c : Nat) (f : Nat → Int32) : Sg := fun x => if x = c then f else σ x
def up (σ : Sg) (c i : Nat) (v : Int32) : Sg := upc σ c (upd (σ c) i v)
def kdS : List (Nat × Nat) := [(0, 2), (2, 20), (1, 20), (1, 1200), (1, 20), (1, 1200), (1, 20), (1, 20), (2, 400), (1, 36), (1, 60), (1, 3), (1, 5)]
def kdO : List (Nat × Nat) := [(0, 1), (1, 60), (0, 3), (3, 4), (0, 4), (1, 20), (1, 20), (0, 5), (1, 36), (1, 20), (1, 20), (0, 6), (1, 60), (1, 60), (1, 20), (0, 7), (2, 20), (1, 12), (1, 20), (1, 20), (1, 20), (1, 20), (0, 8), (2, 20), (1, 20), (1, 20), (1, 20), (0, 9), (1, 20), (1, 20), (0, 10), (1, 61), (1, 400), (0, 0), (0, 11), (1, 1385), (1, 1385), (1, 5540), (1, 60), (1, 20), (1, 20), (1, 20), (1, 20), (1, 20), (1, 20), (1, 20), (1, 20), (1, 20), (1, 20), (1, 20), (1, 36), (1, 1200), (1, 20), (1, 61), (1, 61)]
/-- the kind of a cell: 0 an object of the class of that number, 1 a row of ints, 2 of booleans, 3 of states, of that length -/
def kd (c : Nat) : Nat × Nat := if c < 78 then kdS.getD (c % 13) (0, 0) else kdO.getD (c - 78) (0, 0)
def isSt (c : Nat) : Bool := decide (c < 78) && (c % 13 == 0)
/-- an index within a row -/
def inb (i : Int32) (n : Nat) : Bool := !(decide (i < 0) || decide (n ≤ i.toNatClampNeg))
theorem inb_in {i : Int32} {n : Nat} (h : inb i n = true) : vp_in i n := by
  simp only [inb, Bool.not_eq_true', Bool.or_eq_false_iff, decide_eq_false_iff_not] at h
  exact fun q => q.elim h.1 h.2
/-- go on only if -/
def gd {α : Type} (b : Bool) (k : Option α) : Option α := if b = true then k else none
theorem gd_t {α : Type} (k : Option α) : gd true k = k := rfl
theorem gd_some {α : Type} {b : Bool} {k : Option α} {x : α} (h : gd b k = some x) : b = true ∧ k = some x := by
  cases b with
  | true => exact ⟨rfl, h⟩
  | false => cases h
theorem bind_some' {α β : Type} {o : Option α} {k : α → Option β} {x : β} (h : o.bind k = some x) : ∃ a, o = some a ∧ k a = some x := by
  cases o with
  | none => cases h
  | some a => exact ⟨a, rfl, h⟩
/-- a call's answer and the contents behind it -/
def bd {β : Type} (o : Option (Int32 × Sg)) (k : Int32 → Sg → Option β) : Option β := match o with
  | none => none
  | some q => k q.1 q.2
theorem bd_some {β : Type} {o : Option (Int32 × Sg)} {k : Int32 → Sg → Option β} {x : β} (h : bd o k = some x) : ∃ (r : Int32) (σ1 : Sg), o = some (r, σ1) ∧ k r σ1 = some x := by
  cases o with
  | none => cases h
  | some q => exact ⟨q.1, q.2, rfl, h⟩
theorem bd_s {β : Type} (r : Int32) (σ1 : Sg) (k : Int32 → Sg → Option β) : bd (some (r, σ1)) k = k r σ1 := rfl
/-- a name for a value -/
def lt' {α β : Type} (a : α) (k : α → β) : β := k a
theorem lt_ex {α β : Type} {a : α} {k : α → β} {x : β} (h : lt' a k = x) : ∃ y, y = a ∧ k y = x := ⟨a, rfl, h⟩
theorem ite_t {α : Type} {c : Prop} {d : Decidable c} {a b x : α} (h : c) (e : (if c then a else b) = x) : a = x := by rw [if_pos h] at e; exact e
theorem ite_f {α : Type} {c : Prop} {d : Decidable c} {a b x : α} (h : ¬ c) (e : (if c then a else b) = x) : b = x := by rw [if_neg h] at e; exact e
theorem sum8 {n : Nat} (h : Nat.ble n 8 = true) : n ≤ 8 := Nat.le_of_ble_eq_true h
def cpok (n : Int32) (na nb : Nat) : Bool := !(decide (n < 0)) && (decide (n.toNatClampNeg ≤ na) && decide (n.toNatClampNeg ≤ nb))
theorem cpok_of {n : Int32} {na nb : Nat} (h : cpok n na nb = true) : ¬ n < 0 ∧ n.toNatClampNeg ≤ na ∧ n.toNatClampNeg ≤ nb := by
  simp only [cpok, Bool.and_eq_true, Bool.not_eq_true', decide_eq_false_iff_not, decide_eq_true_eq] at h
  exact h
def nz (y : Int32) : Bool := !(decide (y = 0))
theorem nz_of {y : Int32} (h : nz y = true) : ¬ y = 0 := by
  simp only [nz, Bool.not_eq_true', decide_eq_false_iff_not] at h
  exact h
theorem ts_out {x : Int32} (n : Nat) (hn : n < 2147483648) (h : ∀ k, k < n → ¬ x = nI k) : x.toInt < 0 ∨ ((n : Int) - 1) < x.toInt := by
  by_cases h0 : x < 0
  · exact Or.inl (Int32.lt_iff_toInt_lt.mp h0)
  · obtain ⟨j, hj, e⟩ := nI_of h0
    refine Or.inr ?_
    rw [e, nI_toInt hj]
    rcases Nat.lt_or_ge j n with q | q
    · exact absurd e (h j q)
    · omega
def bits (f : Nat → Int32) (n : Nat) : Bool := (List.range n).all (fun i => decide (f i = 0) || decide (f i = 1))
theorem bits_fit {f : Nat → Int32} {n : Nat} (h : bits f n = true) : ∀ i, i < n → fits .boolean (.int (f i)) = true := by
  intro i hi
  have h1 := List.all_eq_true.mp h i (List.mem_range.mpr hi)
  simp only [Bool.or_eq_true, decide_eq_true_eq] at h1
  rcases h1 with h1 | h1 <;> rw [h1] <;> decide
def isbit (v : Int32) : Bool := decide (v = 0) || decide (v = 1)
theorem isbit_n {v : Int32} (h : isbit v = true) : narrow .boolean (.int v) = .int v := by
  simp only [isbit, Bool.or_eq_true, decide_eq_true_eq] at h
  rcases h with rfl | rfl <;> rfl
def FU : Nat := 20000
def imax (x y : Int32) : Int32 := if x < y then y else x
def imin (x y : Int32) : Int32 := if y < x then y else x
def iabs (x : Int32) : Int32 := if 0 ≤ x then x else 0 - x
def irm (x y : Int32) : Int32 := x - x / y * y
def isl (x y : Int32) : Int32 := x <<< (y &&& 31)
def isr (x y : Int32) : Int32 := x >>> (y &&& 31)
def va_cpy' (f g : Nat → Int32) (n : Nat) : Nat → Int32 := fun k => if k < n then f k else g k
theorem cpy_eq (f g : Nat → Int32) (n : Nat) : va_cpy' f g n = va_cpy f g 0 0 n := by
  funext k
  simp [va_cpy', va_cpy]

