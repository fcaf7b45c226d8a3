/-! bits of small numbers, as the machine has them and as numbers -/
theorem iI_nat (a : Nat) : Int32.ofInt (a : Int) = Int32.ofNat a := rfl
theorem i32_and (a b : Nat) : Int32.ofNat a &&& Int32.ofNat b = Int32.ofNat (a &&& b) := by
  apply Int32.toBitVec_inj.mp
  simp only [Int32.toBitVec_and, Int32.toBitVec_ofNat]
  apply BitVec.eq_of_toNat_eq
  simp [Nat.and_mod_two_pow]
theorem i32_or (a b : Nat) : Int32.ofNat a ||| Int32.ofNat b = Int32.ofNat (a ||| b) := by
  apply Int32.toBitVec_inj.mp
  simp only [Int32.toBitVec_or, Int32.toBitVec_ofNat]
  apply BitVec.eq_of_toNat_eq
  simp [Nat.or_mod_two_pow]
theorem i32_xor (a b : Nat) : Int32.ofNat a ^^^ Int32.ofNat b = Int32.ofNat (a ^^^ b) := by
  apply Int32.toBitVec_inj.mp
  simp only [Int32.toBitVec_xor, Int32.toBitVec_ofNat]
  apply BitVec.eq_of_toNat_eq
  simp [Nat.xor_mod_two_pow]
theorem i32_toInt {n : Nat} (h : n < 2147483648) : (Int32.ofNat n).toInt = (n : Int) := by
  rw [← iI_nat, iI_toInt ⟨by omega, by omega⟩]
theorem band_n {a b : Nat} (ha : a < 2147483648) : band a b = ((a &&& b : Nat) : Int) := by
  unfold band
  rw [iI_nat, iI_nat, i32_and, i32_toInt (Nat.lt_of_le_of_lt Nat.and_le_left ha)]
theorem bor_n {a b : Nat} (ha : a < 2147483648) (hb : b < 2147483648) : bor a b = ((a ||| b : Nat) : Int) := by
  unfold bor
  rw [iI_nat, iI_nat, i32_or, i32_toInt (Nat.or_lt_two_pow (n := 31) ha hb)]
theorem bxor_n {a b : Nat} (ha : a < 2147483648) (hb : b < 2147483648) : bxor a b = ((a ^^^ b : Nat) : Int) := by
  unfold bxor
  rw [iI_nat, iI_nat, i32_xor, i32_toInt (Nat.xor_lt_two_pow (n := 31) ha hb)]
theorem bshl_1 : ∀ k : Nat, k < 30 → bshl 1 k = ((2 ^ k : Nat) : Int) := by decide +kernel
/-- how many of the 12 lowest bits are set -/
def pcA (n : Nat) : Nat → Nat
  | 0 => 0
  | k + 1 => pcA n k + (n.testBit k).toNat
def pc (n : Nat) : Nat := pcA n 12
theorem pcA_le (n : Nat) : ∀ k, pcA n k ≤ k
  | 0 => Nat.le_refl _
  | k + 1 => by
    have := pcA_le n k
    have h : (n.testBit k).toNat ≤ 1 := by cases n.testBit k <;> decide
    simp only [pcA]
    omega
theorem pc_le (n : Nat) : pc n ≤ 12 := pcA_le n 12
def bc1 (x : Int) : Int := x - band (bushr x 1) 1431655765
def bc2 (y : Int) : Int := band y 858993459 + band (bushr y 2) 858993459
def bc3 (z : Int) : Int := band (z + bushr z 4) 252645135
def bc4 (w : Int) : Int := w + bushr w 8
def bc5 (u : Int) : Int := u + bushr u 16
def bcF (x : Int) : Int := band (bc5 (bc4 (bc3 (bc2 (bc1 x))))) 63
set_option maxRecDepth 100000 in
theorem bcF_eq : ∀ n : Nat, n < 4096 → bcF n = (pc n : Int) := by decide +kernel
/-- the least bit that is set -/
def lobA (n : Nat) : Nat → Nat
  | 0 => 0
  | k + 1 => if lobA n k = 0 then (if n.testBit k then 2 ^ k else 0) else lobA n k
def lob (n : Nat) : Nat := lobA n 12
set_option maxRecDepth 100000 in
theorem lob_x : ∀ n : Nat, n < 4096 → band n (-(n : Int)) = (lob n : Int) := by decide +kernel
