/-! sets as bits -/
theorem toI_nat {n : Nat} (h : n < 2147483648) : (Int32.ofNat n).toInt = (n : Int) := nI_toInt h
/-- x without b -/
def ndf (x b : Nat) : Nat := x ^^^ (x &&& b)
theorem ndf_bit (x b i : Nat) : (ndf x b).testBit i = (x.testBit i && !b.testBit i) := by
  unfold ndf
  rw [Nat.testBit_xor, Nat.testBit_and]
  cases x.testBit i <;> cases b.testBit i <;> rfl
theorem and_lt {a b : Nat} (h : a < 2147483648) : a &&& b < 2147483648 := Nat.lt_of_le_of_lt Nat.and_le_left h
theorem or_lt {a b : Nat} (h : a < 2147483648) (h2 : b < 2147483648) : a ||| b < 2147483648 := Nat.or_lt_two_pow (n := 31) h h2
theorem ndf_lt {a b : Nat} (h : a < 2147483648) : ndf a b < 2147483648 := Nat.xor_lt_two_pow (n := 31) h (and_lt h)
theorem wia_n {a b : Nat} (h : a < 2147483648) : wia a b = ((a &&& b : Nat) : Int) := by
  unfold wia
  rw [ofI_nat, ofI_nat]
  have : Int32.ofNat a &&& Int32.ofNat b = Int32.ofNat (a &&& b) := by
    apply Int32.toBitVec_inj.mp
    show BitVec.ofNat 32 a &&& BitVec.ofNat 32 b = BitVec.ofNat 32 (a &&& b)
    rw [BitVec.ofNat_and]
  rw [this, toI_nat (and_lt h)]
theorem wio_n {a b : Nat} (h : a < 2147483648) (h2 : b < 2147483648) : wio a b = ((a ||| b : Nat) : Int) := by
  unfold wio
  rw [ofI_nat, ofI_nat]
  have : Int32.ofNat a ||| Int32.ofNat b = Int32.ofNat (a ||| b) := by
    apply Int32.toBitVec_inj.mp
    show BitVec.ofNat 32 a ||| BitVec.ofNat 32 b = BitVec.ofNat 32 (a ||| b)
    rw [BitVec.ofNat_or]
  rw [this, toI_nat (or_lt h h2)]
theorem wnot_n {a b : Nat} (h : a < 2147483648) : wia a (wix b (-1)) = ((ndf a b : Nat) : Int) := by
  unfold wia wix
  rw [wr_ofI, ofI_nat, ofI_nat]
  have : Int32.ofNat a &&& (Int32.ofNat b ^^^ Int32.ofInt (-1)) = Int32.ofNat (ndf a b) := by
    apply Int32.toBitVec_inj.mp
    show BitVec.ofNat 32 a &&& (BitVec.ofNat 32 b ^^^ BitVec.ofInt 32 (-1)) = BitVec.ofNat 32 (ndf a b)
    apply BitVec.eq_of_getLsbD_eq
    intro i hi
    have hm : (BitVec.ofInt 32 (-1)).getLsbD i = true := by
      have : BitVec.ofInt 32 (-1) = BitVec.allOnes 32 := by decide
      rw [this, BitVec.getLsbD_allOnes]
      simpa using hi
    rw [BitVec.getLsbD_and, BitVec.getLsbD_xor, hm, BitVec.getLsbD_ofNat, BitVec.getLsbD_ofNat, BitVec.getLsbD_ofNat, ndf_bit]
    simp [hi]
  rw [this, toI_nat (ndf_lt h)]
theorem wsl_k : ∀ k : Nat, k < 31 → wsl 1 (k : Int) = ((2 ^ k : Nat) : Int) := by decide +kernel
theorem pw_lt {k : Nat} (h : k < 31) : 2 ^ k < 2147483648 := by
  have : 2 ^ k < 2 ^ 31 := Nat.pow_lt_pow_right (by omega) h
  exact this
theorem pw_bit (k i : Nat) : (2 ^ k).testBit i = decide (k = i) := Nat.testBit_two_pow
theorem bit_pos {n i : Nat} (h : n.testBit i = true) : n ≠ 0 := fun e => by rw [e] at h; simp at h
theorem and_pw {n k : Nat} : n &&& 2 ^ k = 0 ↔ n.testBit k = false := by
  constructor
  · intro h
    have h1 : (n &&& 2 ^ k).testBit k = false := by rw [h]; simp
    rw [Nat.testBit_and, pw_bit] at h1
    simpa using h1
  · intro h
    apply Nat.eq_of_testBit_eq
    intro i
    rw [Nat.testBit_and, pw_bit]
    by_cases e : k = i
    · subst e; simp [h]
    · simp [e]
theorem zero_bits {n : Nat} : n = 0 ↔ ∀ i, n.testBit i = false := ⟨fun h i => by rw [h]; simp, fun h => Nat.eq_of_testBit_eq fun i => by rw [h i]; simp⟩
theorem lt_bits {n k i : Nat} (h : n < 2 ^ k) (hi : k ≤ i) : n.testBit i = false := Nat.testBit_lt_two_pow (Nat.lt_of_lt_of_le h (Nat.pow_le_pow_right (by omega) hi))
theorem bits_lt {n k : Nat} (h : ∀ i, k ≤ i → n.testBit i = false) : n < 2 ^ k := Nat.lt_pow_two_of_testBit n h
