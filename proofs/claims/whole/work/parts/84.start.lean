/-! the world of the start: the constructors' cells by their numbers -/
def pl9 : List Nat := [3, 4, 5, 6, 7, 8, 9, 10, 11, 14, 15, 12, 13, 70, 71, 72, 73, 74, 75, 76, 77, 78, 81, 82, 79, 80, 18, 19, 20, 21, 22, 23, 24, 25, 26, 29, 30, 27, 28, 31, 32, 33, 34, 35, 36, 37, 38, 39, 42, 43, 40, 41, 44, 45, 46, 47, 48, 49, 50, 51, 52, 55, 56, 53, 54, 57, 58, 59, 60, 61, 62, 63, 64, 65, 68, 69, 66, 67, 1, 2, 16, 17, 83, 84, 85, 86, 87, 88, 89, 90, 91, 92, 93, 94, 95, 96, 97, 98, 99, 100, 101, 102, 103, 104, 105, 106, 107, 108, 109, 110, 111, 0, 112, 113, 114, 115, 116, 117, 118, 119, 120, 121, 122, 123, 124, 125, 126, 127, 128, 129, 130, 131, 132]
def ql9 : List Nat := [111, 78, 79, 0, 1, 2, 3, 4, 5, 6, 7, 8, 11, 12, 9, 10, 80, 81, 26, 27, 28, 29, 30, 31, 32, 33, 34, 37, 38, 35, 36, 39, 40, 41, 42, 43, 44, 45, 46, 47, 50, 51, 48, 49, 52, 53, 54, 55, 56, 57, 58, 59, 60, 63, 64, 61, 62, 65, 66, 67, 68, 69, 70, 71, 72, 73, 76, 77, 74, 75, 13, 14, 15, 16, 17, 18, 19, 20, 21, 24, 25, 22, 23, 82, 83, 84, 85, 86, 87, 88, 89, 90, 91, 92, 93, 94, 95, 96, 97, 98, 99, 100, 101, 102, 103, 104, 105, 106, 107, 108, 109, 110, 112, 113, 114, 115, 116, 117, 118, 119, 120, 121, 122, 123, 124, 125, 126, 127, 128, 129, 130, 131, 132]
theorem pl_inv0 : (List.range 133).all (fun c => ql9.getD (pl9.getD c 0) 0 == c) = true := by decide +kernel
theorem pl_inv : ∀ c, c < 133 → ql9.getD (pl9.getD c 0) 0 = c := fun c hc => by simpa using List.all_eq_true.mp pl_inv0 c (List.mem_range.mpr hc)
def adW (u v : Nat → Nat) (c : Nat) : Nat := if c < 111 then u (c + 1) else if c = 111 then u 0 else v (c - 112)
def sS (j : Nat) : Nat → Int32 := if j = 9 then fun _ => (-5) else if j = 10 then fun _ => (-5) else if j = 11 then upd (upd (upd (fun _ => 0) 0 0) 1 3) 2 0 else if j = 12 then upd (upd (upd (upd (upd (fun _ => 0) 0 100) 1 50) 2 20) 3 10) 4 5 else fun _ => 0
def sH (i : Nat) : Int32 := if i = 0 then nI 26 else if i = 1 then nI 39 else if i = 2 then nI 52 else nI 65
def s0 : Sg := fun c => if c < 78 then sS (c % 13) else if c = 81 then sH else if c = 113 then upd (upd (upd (upd (upd (upd (fun _ => 0) 2 3) 4 100) 5 50) 6 20) 7 10) 8 5 else fun _ => 0
def bAll (T3 : C3) (u v : Nat → Nat) : va_W := bCT T3 u ++ bMO T3 v
def bX (T3 : C3) (u v : Nat → Nat) : va_W := [(u 0, .inr (0, [.ref (u 79), .ref (u 1), .ref (u 81), .ref (u 14), .int 0, .ref (u 83), .ref (u 86), .ref (u 90), .ref (u 94), .ref (u 101), .ref (u 106), .ref (u 109)])), (u 79, .inr (1, [.ref (u 80), .int 0])), (u 80, .inl (T3.1, 60, .inl (fun _ => 0))), (u 1, .inr (2, [.int 0, .ref (u 2), .ref (u 3), .ref (u 4), .ref (u 5), .ref (u 6), .ref (u 7), .ref (u 8), .ref (u 9), .ref (u 10), .ref (u 11), .ref (u 12), .ref (u 13)])), (u 2, .inl (T3.2.1, 20, .inl (fun _ => 0))), (u 3, .inl (T3.1, 20, .inl (fun _ => 0))), (u 4, .inl (T3.1, 1200, .inl (fun _ => 0))), (u 5, .inl (T3.1, 20, .inl (fun _ => 0))), (u 6, .inl (T3.1, 1200, .inl (fun _ => 0))), (u 7, .inl (T3.1, 20, .inl (fun _ => 0))), (u 8, .inl (T3.1, 20, .inl (fun _ => 0))), (u 9, .inl (T3.2.1, 400, .inl (fun _ => 0))), (u 12, .inl (T3.1, 3, .inl (upd (upd (upd (fun _ => 0) 0 0) 1 3) 2 0))), (u 13, .inl (T3.1, 5, .inl (upd (upd (upd (upd (upd (fun _ => 0) 0 100) 1 50) 2 20) 3 10) 4 5))), (u 10, .inl (T3.1, 36, .inl (fun _ => (-5)))), (u 11, .inl (T3.1, 60, .inl (fun _ => (-5)))), (u 81, .inr (3, [.ref (u 82), .int 0])), (u 82, .inl (T3.2.2, 4, .inr (.inr (.inr (.inr (va_up (va_up (va_up (va_up (fun _ => none) 0 (some (u 27))) 1 (some (u 40))) 2 (some (u 53))) 3 (some (u 66)))))))), (u 27, .inr (2, [.int 0, .ref (u 28), .ref (u 29), .ref (u 30), .ref (u 31), .ref (u 32), .ref (u 33), .ref (u 34), .ref (u 35), .ref (u 36), .ref (u 37), .ref (u 38), .ref (u 39)])), (u 28, .inl (T3.2.1, 20, .inl (fun _ => 0))), (u 29, .inl (T3.1, 20, .inl (fun _ => 0))), (u 30, .inl (T3.1, 1200, .inl (fun _ => 0))), (u 31, .inl (T3.1, 20, .inl (fun _ => 0))), (u 32, .inl (T3.1, 1200, .inl (fun _ => 0))), (u 33, .inl (T3.1, 20, .inl (fun _ => 0))), (u 34, .inl (T3.1, 20, .inl (fun _ => 0))), (u 35, .inl (T3.2.1, 400, .inl (fun _ => 0))), (u 38, .inl (T3.1, 3, .inl (upd (upd (upd (fun _ => 0) 0 0) 1 3) 2 0))), (u 39, .inl (T3.1, 5, .inl (upd (upd (upd (upd (upd (fun _ => 0) 0 100) 1 50) 2 20) 3 10) 4 5))), (u 36, .inl (T3.1, 36, .inl (fun _ => (-5)))), (u 37, .inl (T3.1, 60, .inl (fun _ => (-5)))), (u 40, .inr (2, [.int 0, .ref (u 41), .ref (u 42), .ref (u 43), .ref (u 44), .ref (u 45), .ref (u 46), .ref (u 47), .ref (u 48), .ref (u 49), .ref (u 50), .ref (u 51), .ref (u 52)])), (u 41, .inl (T3.2.1, 20, .inl (fun _ => 0))), (u 42, .inl (T3.1, 20, .inl (fun _ => 0))), (u 43, .inl (T3.1, 1200, .inl (fun _ => 0))), (u 44, .inl (T3.1, 20, .inl (fun _ => 0))), (u 45, .inl (T3.1, 1200, .inl (fun _ => 0))), (u 46, .inl (T3.1, 20, .inl (fun _ => 0))), (u 47, .inl (T3.1, 20, .inl (fun _ => 0))), (u 48, .inl (T3.2.1, 400, .inl (fun _ => 0))), (u 51, .inl (T3.1, 3, .inl (upd (upd (upd (fun _ => 0) 0 0) 1 3) 2 0))), (u 52, .inl (T3.1, 5, .inl (upd (upd (upd (upd (upd (fun _ => 0) 0 100) 1 50) 2 20) 3 10) 4 5))), (u 49, .inl (T3.1, 36, .inl (fun _ => (-5)))), (u 50, .inl (T3.1, 60, .inl (fun _ => (-5)))), (u 53, .inr (2, [.int 0, .ref (u 54), .ref (u 55), .ref (u 56), .ref (u 57), .ref (u 58), .ref (u 59), .ref (u 60), .ref (u 61), .ref (u 62), .ref (u 63), .ref (u 64), .ref (u 65)])), (u 54, .inl (T3.2.1, 20, .inl (fun _ => 0))), (u 55, .inl (T3.1, 20, .inl (fun _ => 0))), (u 56, .inl (T3.1, 1200, .inl (fun _ => 0))), (u 57, .inl (T3.1, 20, .inl (fun _ => 0))), (u 58, .inl (T3.1, 1200, .inl (fun _ => 0))), (u 59, .inl (T3.1, 20, .inl (fun _ => 0))), (u 60, .inl (T3.1, 20, .inl (fun _ => 0))), (u 61, .inl (T3.2.1, 400, .inl (fun _ => 0))), (u 64, .inl (T3.1, 3, .inl (upd (upd (upd (fun _ => 0) 0 0) 1 3) 2 0))), (u 65, .inl (T3.1, 5, .inl (upd (upd (upd (upd (upd (fun _ => 0) 0 100) 1 50) 2 20) 3 10) 4 5))), (u 62, .inl (T3.1, 36, .inl (fun _ => (-5)))), (u 63, .inl (T3.1, 60, .inl (fun _ => (-5)))), (u 66, .inr (2, [.int 0, .ref (u 67), .ref (u 68), .ref (u 69), .ref (u 70), .ref (u 71), .ref (u 72), .ref (u 73), .ref (u 74), .ref (u 75), .ref (u 76), .ref (u 77), .ref (u 78)])), (u 67, .inl (T3.2.1, 20, .inl (fun _ => 0))), (u 68, .inl (T3.1, 20, .inl (fun _ => 0))), (u 69, .inl (T3.1, 1200, .inl (fun _ => 0))), (u 70, .inl (T3.1, 20, .inl (fun _ => 0))), (u 71, .inl (T3.1, 1200, .inl (fun _ => 0))), (u 72, .inl (T3.1, 20, .inl (fun _ => 0))), (u 73, .inl (T3.1, 20, .inl (fun _ => 0))), (u 74, .inl (T3.2.1, 400, .inl (fun _ => 0))), (u 77, .inl (T3.1, 3, .inl (upd (upd (upd (fun _ => 0) 0 0) 1 3) 2 0))), (u 78, .inl (T3.1, 5, .inl (upd (upd (upd (upd (upd (fun _ => 0) 0 100) 1 50) 2 20) 3 10) 4 5))), (u 75, .inl (T3.1, 36, .inl (fun _ => (-5)))), (u 76, .inl (T3.1, 60, .inl (fun _ => (-5)))), (u 14, .inr (2, [.int 0, .ref (u 15), .ref (u 16), .ref (u 17), .ref (u 18), .ref (u 19), .ref (u 20), .ref (u 21), .ref (u 22), .ref (u 23), .ref (u 24), .ref (u 25), .ref (u 26)])), (u 15, .inl (T3.2.1, 20, .inl (fun _ => 0))), (u 16, .inl (T3.1, 20, .inl (fun _ => 0))), (u 17, .inl (T3.1, 1200, .inl (fun _ => 0))), (u 18, .inl (T3.1, 20, .inl (fun _ => 0))), (u 19, .inl (T3.1, 1200, .inl (fun _ => 0))), (u 20, .inl (T3.1, 20, .inl (fun _ => 0))), (u 21, .inl (T3.1, 20, .inl (fun _ => 0))), (u 22, .inl (T3.2.1, 400, .inl (fun _ => 0))), (u 25, .inl (T3.1, 3, .inl (upd (upd (upd (fun _ => 0) 0 0) 1 3) 2 0))), (u 26, .inl (T3.1, 5, .inl (upd (upd (upd (upd (upd (fun _ => 0) 0 100) 1 50) 2 20) 3 10) 4 5))), (u 23, .inl (T3.1, 36, .inl (fun _ => (-5)))), (u 24, .inl (T3.1, 60, .inl (fun _ => (-5)))), (u 83, .inr (4, [.ref (u 84), .ref (u 85), .int 0])), (u 84, .inl (T3.1, 20, .inl (fun _ => 0))), (u 85, .inl (T3.1, 20, .inl (fun _ => 0))), (u 86, .inr (5, [.ref (u 87), .ref (u 88), .ref (u 89)])), (u 87, .inl (T3.1, 36, .inl (fun _ => 0))), (u 88, .inl (T3.1, 20, .inl (fun _ => 0))), (u 89, .inl (T3.1, 20, .inl (fun _ => 0))), (u 90, .inr (6, [.ref (u 91), .ref (u 92), .ref (u 93)])), (u 91, .inl (T3.1, 60, .inl (fun _ => 0))), (u 92, .inl (T3.1, 60, .inl (fun _ => 0))), (u 93, .inl (T3.1, 20, .inl (fun _ => 0))), (u 94, .inr (7, [.ref (u 95), .ref (u 96), .ref (u 97), .ref (u 98), .ref (u 99), .ref (u 100), .int 0])), (u 95, .inl (T3.2.1, 20, .inl (fun _ => 0))), (u 96, .inl (T3.1, 12, .inl (fun _ => 0))), (u 97, .inl (T3.1, 20, .inl (fun _ => 0))), (u 98, .inl (T3.1, 20, .inl (fun _ => 0))), (u 99, .inl (T3.1, 20, .inl (fun _ => 0))), (u 100, .inl (T3.1, 20, .inl (fun _ => 0))), (u 101, .inr (8, [.ref (u 102), .ref (u 103), .ref (u 104), .ref (u 105)])), (u 102, .inl (T3.2.1, 20, .inl (fun _ => 0))), (u 103, .inl (T3.1, 20, .inl (fun _ => 0))), (u 104, .inl (T3.1, 20, .inl (fun _ => 0))), (u 105, .inl (T3.1, 20, .inl (fun _ => 0))), (u 106, .inr (9, [.ref (u 107), .ref (u 108)])), (u 107, .inl (T3.1, 20, .inl (fun _ => 0))), (u 108, .inl (T3.1, 20, .inl (fun _ => 0))), (u 109, .inr (10, [.ref (u 110), .ref (u 111)])), (u 110, .inl (T3.1, 61, .inl (fun _ => 0))), (u 111, .inl (T3.1, 400, .inl (fun _ => 0))), (v 0, .inr (11, [.ref (v 1), .ref (v 2), .ref (v 3), .ref (v 4), .int 0, .int 0, .int 0, .ref (v 5), .ref (v 6), .ref (v 7), .ref (v 8), .ref (v 9), .ref (v 10), .ref (v 11), .ref (v 12), .ref (v 13), .ref (v 14), .ref (v 15), .ref (v 16), .ref (v 17), .ref (v 18), .ref (v 19), .ref (v 20), .int 0])), (v 1, .inl (T3.1, 1385, .inl (upd (upd (upd (upd (upd (upd (fun _ => 0) 2 3) 4 100) 5 50) 6 20) 7 10) 8 5))), (v 2, .inl (T3.1, 1385, .inl (fun _ => 0))), (v 3, .inl (T3.1, 5540, .inl (fun _ => 0))), (v 4, .inl (T3.1, 60, .inl (fun _ => 0))), (v 5, .inl (T3.1, 20, .inl (fun _ => 0))), (v 6, .inl (T3.1, 20, .inl (fun _ => 0))), (v 7, .inl (T3.1, 20, .inl (fun _ => 0))), (v 8, .inl (T3.1, 20, .inl (fun _ => 0))), (v 9, .inl (T3.1, 20, .inl (fun _ => 0))), (v 10, .inl (T3.1, 20, .inl (fun _ => 0))), (v 11, .inl (T3.1, 20, .inl (fun _ => 0))), (v 12, .inl (T3.1, 20, .inl (fun _ => 0))), (v 13, .inl (T3.1, 20, .inl (fun _ => 0))), (v 14, .inl (T3.1, 20, .inl (fun _ => 0))), (v 15, .inl (T3.1, 20, .inl (fun _ => 0))), (v 16, .inl (T3.1, 36, .inl (fun _ => 0))), (v 17, .inl (T3.1, 1200, .inl (fun _ => 0))), (v 18, .inl (T3.1, 20, .inl (fun _ => 0))), (v 19, .inl (T3.1, 61, .inl (fun _ => 0))), (v 20, .inl (T3.1, 61, .inl (fun _ => 0)))]
set_option maxRecDepth 20000 in
theorem bAll_eq (T3 : C3) (u v : Nat → Nat) : bAll T3 u v = bX T3 u v := by
  simp only [bAll, bX, bCT, bMO, bHI, bST, bDR, bGR, bCO, bRA, bRO, bOR, bSH, bDI, List.cons_append, List.nil_append, List.append_assoc, Nat.reduceAdd, Nat.reduceLT, ↓reduceIte]
section PK
variable (D : va_G) (T3 : C3) (b9 : Nat) (u v : Nat → Nat)
set_option maxRecDepth 20000 in
theorem pk_0 (c : Nat) (h1 : 0 ≤ c) (h2 : c < 7) : (bX T3 u v)[pl9.getD c 0]? = some (adW u v c, z_cell (D, T3, adW u v, b9) c (s0 c)) := by
  rcases (show c = 0 ∨ c = 1 ∨ c = 2 ∨ c = 3 ∨ c = 4 ∨ c = 5 ∨ c = 6 by omega) with rfl | rfl | rfl | rfl | rfl | rfl | rfl <;> rfl
set_option maxRecDepth 20000 in
theorem pk_7 (c : Nat) (h1 : 7 ≤ c) (h2 : c < 14) : (bX T3 u v)[pl9.getD c 0]? = some (adW u v c, z_cell (D, T3, adW u v, b9) c (s0 c)) := by
  rcases (show c = 7 ∨ c = 8 ∨ c = 9 ∨ c = 10 ∨ c = 11 ∨ c = 12 ∨ c = 13 by omega) with rfl | rfl | rfl | rfl | rfl | rfl | rfl <;> rfl
set_option maxRecDepth 20000 in
theorem pk_14 (c : Nat) (h1 : 14 ≤ c) (h2 : c < 21) : (bX T3 u v)[pl9.getD c 0]? = some (adW u v c, z_cell (D, T3, adW u v, b9) c (s0 c)) := by
  rcases (show c = 14 ∨ c = 15 ∨ c = 16 ∨ c = 17 ∨ c = 18 ∨ c = 19 ∨ c = 20 by omega) with rfl | rfl | rfl | rfl | rfl | rfl | rfl <;> rfl
set_option maxRecDepth 20000 in
theorem pk_21 (c : Nat) (h1 : 21 ≤ c) (h2 : c < 28) : (bX T3 u v)[pl9.getD c 0]? = some (adW u v c, z_cell (D, T3, adW u v, b9) c (s0 c)) := by
  rcases (show c = 21 ∨ c = 22 ∨ c = 23 ∨ c = 24 ∨ c = 25 ∨ c = 26 ∨ c = 27 by omega) with rfl | rfl | rfl | rfl | rfl | rfl | rfl <;> rfl
set_option maxRecDepth 20000 in
theorem pk_28 (c : Nat) (h1 : 28 ≤ c) (h2 : c < 35) : (bX T3 u v)[pl9.getD c 0]? = some (adW u v c, z_cell (D, T3, adW u v, b9) c (s0 c)) := by
  rcases (show c = 28 ∨ c = 29 ∨ c = 30 ∨ c = 31 ∨ c = 32 ∨ c = 33 ∨ c = 34 by omega) with rfl | rfl | rfl | rfl | rfl | rfl | rfl <;> rfl
set_option maxRecDepth 20000 in
theorem pk_35 (c : Nat) (h1 : 35 ≤ c) (h2 : c < 42) : (bX T3 u v)[pl9.getD c 0]? = some (adW u v c, z_cell (D, T3, adW u v, b9) c (s0 c)) := by
  rcases (show c = 35 ∨ c = 36 ∨ c = 37 ∨ c = 38 ∨ c = 39 ∨ c = 40 ∨ c = 41 by omega) with rfl | rfl | rfl | rfl | rfl | rfl | rfl <;> rfl
set_option maxRecDepth 20000 in
theorem pk_42 (c : Nat) (h1 : 42 ≤ c) (h2 : c < 49) : (bX T3 u v)[pl9.getD c 0]? = some (adW u v c, z_cell (D, T3, adW u v, b9) c (s0 c)) := by
  rcases (show c = 42 ∨ c = 43 ∨ c = 44 ∨ c = 45 ∨ c = 46 ∨ c = 47 ∨ c = 48 by omega) with rfl | rfl | rfl | rfl | rfl | rfl | rfl <;> rfl
set_option maxRecDepth 20000 in
theorem pk_49 (c : Nat) (h1 : 49 ≤ c) (h2 : c < 56) : (bX T3 u v)[pl9.getD c 0]? = some (adW u v c, z_cell (D, T3, adW u v, b9) c (s0 c)) := by
  rcases (show c = 49 ∨ c = 50 ∨ c = 51 ∨ c = 52 ∨ c = 53 ∨ c = 54 ∨ c = 55 by omega) with rfl | rfl | rfl | rfl | rfl | rfl | rfl <;> rfl
set_option maxRecDepth 20000 in
theorem pk_56 (c : Nat) (h1 : 56 ≤ c) (h2 : c < 63) : (bX T3 u v)[pl9.getD c 0]? = some (adW u v c, z_cell (D, T3, adW u v, b9) c (s0 c)) := by
  rcases (show c = 56 ∨ c = 57 ∨ c = 58 ∨ c = 59 ∨ c = 60 ∨ c = 61 ∨ c = 62 by omega) with rfl | rfl | rfl | rfl | rfl | rfl | rfl <;> rfl
set_option maxRecDepth 20000 in
theorem pk_63 (c : Nat) (h1 : 63 ≤ c) (h2 : c < 70) : (bX T3 u v)[pl9.getD c 0]? = some (adW u v c, z_cell (D, T3, adW u v, b9) c (s0 c)) := by
  rcases (show c = 63 ∨ c = 64 ∨ c = 65 ∨ c = 66 ∨ c = 67 ∨ c = 68 ∨ c = 69 by omega) with rfl | rfl | rfl | rfl | rfl | rfl | rfl <;> rfl
set_option maxRecDepth 20000 in
theorem pk_70 (c : Nat) (h1 : 70 ≤ c) (h2 : c < 77) : (bX T3 u v)[pl9.getD c 0]? = some (adW u v c, z_cell (D, T3, adW u v, b9) c (s0 c)) := by
  rcases (show c = 70 ∨ c = 71 ∨ c = 72 ∨ c = 73 ∨ c = 74 ∨ c = 75 ∨ c = 76 by omega) with rfl | rfl | rfl | rfl | rfl | rfl | rfl <;> rfl
set_option maxRecDepth 20000 in
theorem pk_77 (c : Nat) (h1 : 77 ≤ c) (h2 : c < 84) (h3 : c ≠ 81) : (bX T3 u v)[pl9.getD c 0]? = some (adW u v c, z_cell (D, T3, adW u v, b9) c (s0 c)) := by
  rcases (show c = 77 ∨ c = 78 ∨ c = 79 ∨ c = 80 ∨ c = 82 ∨ c = 83 by omega) with rfl | rfl | rfl | rfl | rfl | rfl <;> rfl
set_option maxRecDepth 20000 in
theorem pk_84 (c : Nat) (h1 : 84 ≤ c) (h2 : c < 91) : (bX T3 u v)[pl9.getD c 0]? = some (adW u v c, z_cell (D, T3, adW u v, b9) c (s0 c)) := by
  rcases (show c = 84 ∨ c = 85 ∨ c = 86 ∨ c = 87 ∨ c = 88 ∨ c = 89 ∨ c = 90 by omega) with rfl | rfl | rfl | rfl | rfl | rfl | rfl <;> rfl
set_option maxRecDepth 20000 in
theorem pk_91 (c : Nat) (h1 : 91 ≤ c) (h2 : c < 98) : (bX T3 u v)[pl9.getD c 0]? = some (adW u v c, z_cell (D, T3, adW u v, b9) c (s0 c)) := by
  rcases (show c = 91 ∨ c = 92 ∨ c = 93 ∨ c = 94 ∨ c = 95 ∨ c = 96 ∨ c = 97 by omega) with rfl | rfl | rfl | rfl | rfl | rfl | rfl <;> rfl
set_option maxRecDepth 20000 in
theorem pk_98 (c : Nat) (h1 : 98 ≤ c) (h2 : c < 105) : (bX T3 u v)[pl9.getD c 0]? = some (adW u v c, z_cell (D, T3, adW u v, b9) c (s0 c)) := by
  rcases (show c = 98 ∨ c = 99 ∨ c = 100 ∨ c = 101 ∨ c = 102 ∨ c = 103 ∨ c = 104 by omega) with rfl | rfl | rfl | rfl | rfl | rfl | rfl <;> rfl
set_option maxRecDepth 20000 in
theorem pk_105 (c : Nat) (h1 : 105 ≤ c) (h2 : c < 112) : (bX T3 u v)[pl9.getD c 0]? = some (adW u v c, z_cell (D, T3, adW u v, b9) c (s0 c)) := by
  rcases (show c = 105 ∨ c = 106 ∨ c = 107 ∨ c = 108 ∨ c = 109 ∨ c = 110 ∨ c = 111 by omega) with rfl | rfl | rfl | rfl | rfl | rfl | rfl <;> rfl
set_option maxRecDepth 20000 in
theorem pk_112 (c : Nat) (h1 : 112 ≤ c) (h2 : c < 119) : (bX T3 u v)[pl9.getD c 0]? = some (adW u v c, z_cell (D, T3, adW u v, b9) c (s0 c)) := by
  rcases (show c = 112 ∨ c = 113 ∨ c = 114 ∨ c = 115 ∨ c = 116 ∨ c = 117 ∨ c = 118 by omega) with rfl | rfl | rfl | rfl | rfl | rfl | rfl <;> rfl
set_option maxRecDepth 20000 in
theorem pk_119 (c : Nat) (h1 : 119 ≤ c) (h2 : c < 126) : (bX T3 u v)[pl9.getD c 0]? = some (adW u v c, z_cell (D, T3, adW u v, b9) c (s0 c)) := by
  rcases (show c = 119 ∨ c = 120 ∨ c = 121 ∨ c = 122 ∨ c = 123 ∨ c = 124 ∨ c = 125 by omega) with rfl | rfl | rfl | rfl | rfl | rfl | rfl <;> rfl
set_option maxRecDepth 20000 in
theorem pk_126 (c : Nat) (h1 : 126 ≤ c) (h2 : c < 133) : (bX T3 u v)[pl9.getD c 0]? = some (adW u v c, z_cell (D, T3, adW u v, b9) c (s0 c)) := by
  rcases (show c = 126 ∨ c = 127 ∨ c = 128 ∨ c = 129 ∨ c = 130 ∨ c = 131 ∨ c = 132 by omega) with rfl | rfl | rfl | rfl | rfl | rfl | rfl <;> rfl
set_option maxRecDepth 20000 in
theorem pk_81 : (bX T3 u v)[pl9.getD 81 0]? = some (adW u v 81, .inl (T3.2.2, 4, .inr (.inr (.inr (.inr (va_up (va_up (va_up (va_up (fun _ => none) 0 (some (adW u v 26))) 1 (some (adW u v 39))) 2 (some (adW u v 52))) 3 (some (adW u v 65)))))))) := rfl
theorem pk_all (c : Nat) (h : c < 133) (h3 : c ≠ 81) : (bX T3 u v)[pl9.getD c 0]? = some (adW u v c, z_cell (D, T3, adW u v, b9) c (s0 c)) := by
  rcases Nat.lt_or_ge c 7 with q7 | q7
  · exact pk_0 D T3 b9 u v c (Nat.zero_le _) q7
  rcases Nat.lt_or_ge c 14 with q14 | q14
  · exact pk_7 D T3 b9 u v c q7 q14
  rcases Nat.lt_or_ge c 21 with q21 | q21
  · exact pk_14 D T3 b9 u v c q14 q21
  rcases Nat.lt_or_ge c 28 with q28 | q28
  · exact pk_21 D T3 b9 u v c q21 q28
  rcases Nat.lt_or_ge c 35 with q35 | q35
  · exact pk_28 D T3 b9 u v c q28 q35
  rcases Nat.lt_or_ge c 42 with q42 | q42
  · exact pk_35 D T3 b9 u v c q35 q42
  rcases Nat.lt_or_ge c 49 with q49 | q49
  · exact pk_42 D T3 b9 u v c q42 q49
  rcases Nat.lt_or_ge c 56 with q56 | q56
  · exact pk_49 D T3 b9 u v c q49 q56
  rcases Nat.lt_or_ge c 63 with q63 | q63
  · exact pk_56 D T3 b9 u v c q56 q63
  rcases Nat.lt_or_ge c 70 with q70 | q70
  · exact pk_63 D T3 b9 u v c q63 q70
  rcases Nat.lt_or_ge c 77 with q77 | q77
  · exact pk_70 D T3 b9 u v c q70 q77
  rcases Nat.lt_or_ge c 84 with q84 | q84
  · exact pk_77 D T3 b9 u v c q77 q84 h3
  rcases Nat.lt_or_ge c 91 with q91 | q91
  · exact pk_84 D T3 b9 u v c q84 q91
  rcases Nat.lt_or_ge c 98 with q98 | q98
  · exact pk_91 D T3 b9 u v c q91 q98
  rcases Nat.lt_or_ge c 105 with q105 | q105
  · exact pk_98 D T3 b9 u v c q98 q105
  rcases Nat.lt_or_ge c 112 with q112 | q112
  · exact pk_105 D T3 b9 u v c q105 q112
  rcases Nat.lt_or_ge c 119 with q119 | q119
  · exact pk_112 D T3 b9 u v c q112 q119
  rcases Nat.lt_or_ge c 126 with q126 | q126
  · exact pk_119 D T3 b9 u v c q119 q126
  exact pk_126 D T3 b9 u v c q126 h
theorem pk_ad (c : Nat) (h : c < 133) : ∃ e : va_E, (bX T3 u v)[pl9.getD c 0]? = some (adW u v c, e) := by
  by_cases h3 : c = 81
  · subst h3; exact ⟨_, pk_81 T3 u v⟩
  · exact ⟨_, pk_all (fun _ => T3.1, fun _ _ => 0) T3 0 u v c h h3⟩
variable {D T3 b9 u v}
theorem v_extq {cA : ClassId} {n : Nat} {f g : Nat → Option Nat} (h : ∀ j, j < n → f j = g j) : vp_cell cA (n, .inr (.inr (.inr (.inr f)))) = vp_cell cA (n, .inr (.inr (.inr (.inr g)))) := by
  rw [vp_cell_q, vp_cell_q]
  unfold arrV
  congr 2
  funext j
  exact congrArg va_rf (h j.1 j.2)
theorem start_P {H : Heap} (hP : va_P D z_cl (bX T3 u v) H) : va_P D z_cl (wld (D, T3, adW u v, b9) s0) H := by
  intro k q hk
  have hl : k < 133 := by simpa [wld] using (List.getElem?_eq_some_iff.mp hk).1
  rw [wld_at _ _ hl] at hk
  cases hk
  by_cases h3 : k = 81
  · subst h3
    have h1 : H[adW u v 81]? = some (vp_cell T3.2.2 _) := hP _ _ (pk_81 T3 u v)
    show va_at D z_cl (adW u v 81, z_cell (D, T3, adW u v, b9) 81 (s0 81)) H
    rw [z_cell_3 kd_81]
    show H[adW u v 81]? = some (vp_cell T3.2.2 (4, .inr (.inr (.inr (.inr (fun i => some (adW u v (s0 81 i).toNatClampNeg)))))))
    rw [h1]
    refine congrArg some (v_extq (fun j hj => ?_))
    rcases (show j = 0 ∨ j = 1 ∨ j = 2 ∨ j = 3 by omega) with rfl | rfl | rfl | rfl <;> rfl
  · exact hP _ _ (pk_all D T3 b9 u v k hl h3)
theorem start_D {A : Nat → Prop} (hD : va_D A (bX T3 u v)) : (∀ i j, i < 133 → j < 133 → adW u v i = adW u v j → i = j) ∧ ∀ i, i < 133 → A (adW u v i) := by
  refine ⟨fun i j hi hj h => ?_, fun i hi => ?_⟩
  · obtain ⟨e1, h1⟩ := pk_ad T3 u v i hi
    obtain ⟨e2, h2⟩ := pk_ad T3 u v j hj
    have h3 := hD.1 _ _ _ _ h1 h2 h
    have h4 : ql9.getD (pl9.getD i 0) 0 = ql9.getD (pl9.getD j 0) 0 := congrArg (fun x => ql9.getD x 0) h3
    rw [pl_inv i hi, pl_inv j hj] at h4
    exact h4
  · obtain ⟨e1, h1⟩ := pk_ad T3 u v i hi
    exact hD.2 _ _ h1
end PK
theorem inv_s0 : Inv s0 := by
  refine ⟨A0, oka_0, ci_0 rfl (fun c _ => rfl) (fun c _ => rfl) (fun c _ => rfl) (fun c _ => rfl) (fun c _ => rfl) ⟨rfl, rfl, rfl⟩ ⟨rfl, rfl, rfl, rfl, rfl⟩ rfl ⟨rfl, rfl, rfl, rfl⟩ rfl rfl, ri_0 (fun i hi => ?_) rfl rfl rfl⟩
  show upd (upd (upd (upd (upd (upd (fun _ => 0) 2 3) 4 100) 5 50) 6 20) 7 10) 8 5 i = N0 i
  unfold N0
  by_cases h2 : i = 2
  · subst h2; rfl
  by_cases h4 : i = 4
  · subst h4; rfl
  by_cases h5 : i = 5
  · subst h5; rfl
  by_cases h6 : i = 6
  · subst h6; rfl
  by_cases h7 : i = 7
  · subst h7; rfl
  by_cases h8 : i = 8
  · subst h8; rfl
  simp only [upd, if_neg h2, if_neg h4, if_neg h5, if_neg h6, if_neg h7, if_neg h8]
  rfl
