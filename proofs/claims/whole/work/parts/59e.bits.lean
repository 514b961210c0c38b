/-! bits of links -/
theorem nI_or (m k : Nat) : nI m ||| nI k = nI (m ||| k) := by
  apply Int32.toBitVec_inj.mp
  rw [Int32.toBitVec_or]
  show BitVec.ofNat 32 m ||| BitVec.ofNat 32 k = BitVec.ofNat 32 (m ||| k)
  apply BitVec.eq_of_getLsbD_eq
  intro i hi
  rw [BitVec.getLsbD_or, BitVec.getLsbD_ofNat, BitVec.getLsbD_ofNat, BitVec.getLsbD_ofNat, Nat.testBit_or, decide_eq_true hi]
  rfl
theorem nI_and (m k : Nat) : nI m &&& nI k = nI (m &&& k) := by
  apply Int32.toBitVec_inj.mp
  rw [Int32.toBitVec_and]
  show BitVec.ofNat 32 m &&& BitVec.ofNat 32 k = BitVec.ofNat 32 (m &&& k)
  apply BitVec.eq_of_getLsbD_eq
  intro i hi
  rw [BitVec.getLsbD_and, BitVec.getLsbD_ofNat, BitVec.getLsbD_ofNat, BitVec.getLsbD_ofNat, Nat.testBit_and, decide_eq_true hi]
  rfl
theorem nI_xor (m k : Nat) : nI m ^^^ nI k = nI (m ^^^ k) := by
  apply Int32.toBitVec_inj.mp
  rw [Int32.toBitVec_xor]
  show BitVec.ofNat 32 m ^^^ BitVec.ofNat 32 k = BitVec.ofNat 32 (m ^^^ k)
  apply BitVec.eq_of_getLsbD_eq
  intro i hi
  rw [BitVec.getLsbD_xor, BitVec.getLsbD_ofNat, BitVec.getLsbD_ofNat, BitVec.getLsbD_ofNat, Nat.testBit_xor, decide_eq_true hi]
  rfl
theorem isl_1 {b : Nat} (hb : b < 20) : isl (nI 1) (nI b) = nI (2 ^ b) := by
  have hs : ∀ b, b < 20 → ((nI b &&& 31).toBitVec.smod 32).toNat = b := by decide
  have hp : ∀ b, b < 20 → 1 * 2 ^ b < 2 ^ 32 := by decide
  unfold isl
  rw [pk_shlN _ b (hs b hb) (hp b hb), Nat.one_mul]
theorem or_lt {m b : Nat} (hm : m < 1048576) (hb : b < 20) : m ||| 2 ^ b < 1048576 := Nat.or_lt_two_pow (n := 20) hm (Nat.pow_lt_pow_right (by decide) hb)
def clr (m a : Nat) : Nat := m &&& (2 ^ a ^^^ (2 ^ 32 - 1))
theorem clr_le (m a : Nat) : clr m a ≤ m := Nat.and_le_left
theorem clr_bit {m a i : Nat} (hi : i < 20) : (clr m a).testBit i = (m.testBit i && !(decide (a = i))) := by
  unfold clr
  rw [Nat.testBit_and, Nat.testBit_xor, Nat.testBit_two_pow, Nat.testBit_two_pow_sub_one, decide_eq_true (show i < 32 by omega)]
  cases decide (a = i) <;> rfl
theorem and_clr {m a : Nat} (ha : a < 20) : nI m &&& (isl (nI 1) (nI a) ^^^ (-1)) = nI (clr m a) := by
  rw [isl_1 ha, show (-1 : Int32) = nI (2 ^ 32 - 1) from by decide, nI_xor, nI_and]
  rfl
theorem or_bit (m b i : Nat) : (m ||| 2 ^ b).testBit i = (m.testBit i || decide (b = i)) := by rw [Nat.testBit_or, Nat.testBit_two_pow]
