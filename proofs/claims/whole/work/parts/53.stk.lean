/-! a row of answers: as the bits of a number, as places of a row -/
section STK
theorem n_xor1 (k : Nat) (b : Bool) : (2 * k + b.toNat) ^^^ 1 = 2 * k + (!b).toNat := by
  apply Nat.eq_of_testBit_eq
  intro i
  rw [Nat.testBit_xor]
  cases i with
  | zero => cases b <;> simp [Nat.testBit_zero] <;> omega
  | succ j =>
    rw [Nat.testBit_succ, Nat.testBit_succ, Nat.testBit_succ]
    have h1 : (2 * k + b.toNat) / 2 = k := by cases b <;> simp only [Bool.toNat_false, Bool.toNat_true] <;> omega
    have h3 : (2 * k + (!b).toNat) / 2 = k := by cases b <;> simp only [Bool.not_false, Bool.not_true, Bool.toNat_false, Bool.toNat_true] <;> omega
    rw [h1, h3]
    simp
theorem n_or1 (k : Nat) (a b : Bool) : (2 * k + a.toNat) ||| b.toNat = 2 * k + (a || b).toNat := by
  apply Nat.eq_of_testBit_eq
  intro i
  rw [Nat.testBit_or]
  cases i with
  | zero => cases a <;> cases b <;> simp [Nat.testBit_zero] <;> omega
  | succ j =>
    rw [Nat.testBit_succ, Nat.testBit_succ, Nat.testBit_succ]
    have h1 : (2 * k + a.toNat) / 2 = k := by cases a <;> simp only [Bool.toNat_false, Bool.toNat_true] <;> omega
    have h2 : b.toNat / 2 = 0 := by cases b <;> rfl
    have h3 : (2 * k + (a || b).toNat) / 2 = k := by cases (a || b) <;> simp only [Bool.toNat_false, Bool.toNat_true] <;> omega
    rw [h1, h2, h3]
    simp
theorem n_and1 (k : Nat) (b : Bool) : (2 * k + b.toNat) &&& 1 = b.toNat := by
  rw [Nat.and_one_is_mod]
  cases b <;> simp only [Bool.toNat_false, Bool.toNat_true] <;> omega
theorem i32_m2 (k : Nat) (b : Bool) : Int32.ofNat (2 * k + b.toNat) &&& (-2) = Int32.ofNat (2 * k) := by
  apply Int32.toBitVec_inj.mp
  apply BitVec.eq_of_getLsbD_eq
  intro i hi
  rw [Int32.toBitVec_and]
  show (BitVec.ofNat 32 (2 * k + b.toNat) &&& (-2 : Int32).toBitVec).getLsbD i = (BitVec.ofNat 32 (2 * k)).getLsbD i
  rw [BitVec.getLsbD_and, BitVec.getLsbD_ofNat, BitVec.getLsbD_ofNat]
  cases i with
  | zero =>
    rw [show (-2 : Int32).toBitVec.getLsbD 0 = false by decide]
    simp [Nat.testBit_zero]
  | succ j =>
    have h : ∀ j, j < 31 → (-2 : Int32).toBitVec.getLsbD (j + 1) = true := by decide
    rw [h j (by omega), Nat.testBit_succ, Nat.testBit_succ]
    have h1 : (2 * k + b.toNat) / 2 = k := by cases b <;> simp only [Bool.toNat_false, Bool.toNat_true] <;> omega
    have h3 : (2 * k) / 2 = k := by omega
    rw [h1, h3]
    simp
theorem bushr_1 {n : Nat} (h : n < 2147483648) : bushr n 1 = ((n / 2 : Nat) : Int) := by
  unfold bushr
  have e := pk_ushrN (n := n) (by omega) (Int32.ofInt 1) 1 (by decide)
  have e' : ((Int32.ofInt (n : Int)).toUInt32 >>> ((Int32.ofInt 1).toUInt32 &&& Int32.toUInt32 31)).toInt32 = Int32.ofNat (n / 2 ^ 1) := e
  rw [e', i32_toInt (by omega)]
theorem bshl_n1 {n : Nat} (h : n < 1073741824) : bshl n 1 = ((2 * n : Nat) : Int) := by
  unfold bshl
  have e := pk_shlN (n := n) (Int32.ofInt 1 &&& 31) 1 (by decide) (by omega)
  have e' : (Int32.ofInt (n : Int) <<< (Int32.ofInt 1 &&& 31)) = Int32.ofNat (n * 2 ^ 1) := e
  rw [e', i32_toInt (by omega)]
  omega
theorem band_m1 {n : Nat} (h : n < 2147483648) : band n (-1) = (n : Int) := by
  unfold band
  rw [show Int32.ofInt (-1) = -1 by rfl, Int32.and_neg_one, iI_nat, i32_toInt h]
theorem band_m2 {k : Nat} {b : Bool} (h : k < 1073741823) : band ((2 * k + b.toNat : Nat) : Int) (-2) = ((2 * k : Nat) : Int) := by
  unfold band
  rw [show Int32.ofInt (-2) = -2 by rfl, iI_nat, i32_m2, i32_toInt (by omega)]
/-- the answers, the last one lowest -/
def stk : List Bool → Nat
  | [] => 0
  | b :: r => 2 * stk r + b.toNat
theorem stk_lt : ∀ st : List Bool, stk st < 2 ^ st.length
  | [] => by decide
  | b :: r => by
    have := stk_lt r
    have hb : b.toNat ≤ 1 := by cases b <;> decide
    simp only [stk, List.length_cons, Nat.pow_succ]
    omega
theorem stk_30 {st : List Bool} (h : st.length ≤ 30) : stk st < 1073741824 := by
  have h1 := stk_lt st
  have h2 : 2 ^ st.length ≤ 2 ^ 30 := Nat.pow_le_pow_right (by decide) h
  have h3 : (2 : Nat) ^ 30 = 1073741824 := by decide
  omega
theorem stk_29 {st : List Bool} (h : st.length < 30) : stk st < 536870912 := by
  have h1 := stk_lt st
  have h2 : 2 ^ st.length ≤ 2 ^ 29 := Nat.pow_le_pow_right (by decide) (by omega)
  have h3 : (2 : Nat) ^ 29 = 536870912 := by decide
  omega
theorem bN (b : Bool) : ((b.toNat : Nat) : Int) = bB b := by cases b <;> rfl
theorem stk_top {b : Bool} {r : List Bool} (h : (b :: r).length ≤ 30) : band (stk (b :: r)) 1 = bB b := by
  have := stk_30 h
  have e := band_n (a := stk (b :: r)) (b := 1) (by omega)
  rw [show ((1 : Nat) : Int) = 1 from rfl] at e
  rw [e]
  simp only [stk]
  rw [n_and1, bN]
theorem stk_not {b : Bool} {r : List Bool} (h : (b :: r).length ≤ 30) : bxor (stk (b :: r)) 1 = ((stk ((!b) :: r) : Nat) : Int) := by
  have := stk_30 h
  have e := bxor_n (a := stk (b :: r)) (b := 1) (by omega) (by decide)
  rw [show ((1 : Nat) : Int) = 1 from rfl] at e
  rw [e]
  simp only [stk]
  rw [n_xor1]
theorem stk_up {b : Bool} {r : List Bool} (h : (b :: r).length ≤ 30) : bushr (stk (b :: r)) 1 = ((stk r : Nat) : Int) := by
  have := stk_30 h
  rw [bushr_1 (by omega)]
  simp only [stk]
  have h1 : (2 * stk r + b.toNat) / 2 = stk r := by cases b <;> simp only [Bool.toNat_false, Bool.toNat_true] <;> omega
  rw [h1]
theorem stk_or {a b : Bool} {r : List Bool} (h : (b :: a :: r).length ≤ 30) : bor (bushr (stk (b :: a :: r)) 1) (band (stk (b :: a :: r)) 1) = ((stk ((a || b) :: r) : Nat) : Int) := by
  have h2 : (a :: r).length ≤ 30 := by simp only [List.length_cons] at h ⊢; omega
  have := stk_30 h2
  rw [stk_up h, stk_top h, ← bN, bor_n (by omega) (by cases b <;> decide)]
  simp only [stk]
  rw [n_or1]
theorem stk_and {a b : Bool} {r : List Bool} (h : (b :: a :: r).length ≤ 30) : band (bushr (stk (b :: a :: r)) 1) (bor (band (stk (b :: a :: r)) 1) (-2)) = ((stk ((a && b) :: r) : Nat) : Int) := by
  have h2 : (a :: r).length ≤ 30 := by simp only [List.length_cons] at h ⊢; omega
  have h3 : r.length < 30 := by simp only [List.length_cons] at h ⊢; omega
  have k1 := stk_30 h2
  have k2 := stk_29 h3
  rw [stk_up h, stk_top h]
  cases b with
  | true =>
    rw [show bor (bB true) (-2) = -1 by decide, band_m1 (by omega), Bool.and_true]
  | false =>
    rw [show bor (bB false) (-2) = -2 by decide]
    simp only [stk]
    rw [band_m2 (by omega), Bool.and_false, Bool.toNat_false, Nat.add_zero]
theorem stk_push {b : Bool} {r : List Bool} (h : r.length < 30) : bor (bshl (stk r) 1) (bB b) = ((stk (b :: r) : Nat) : Int) := by
  have k2 := stk_29 h
  rw [bshl_n1 (by omega), ← bN, bor_n (by omega) (by cases b <;> decide)]
  simp only [stk]
  have := n_or1 (stk r) false b
  rw [Bool.toNat_false, Nat.add_zero, Bool.false_or] at this
  rw [this]
/-- the answers, the last one highest -/
def stR (f : Nat → Int) : List Bool → Prop
  | [] => True
  | b :: r => f r.length = bB b ∧ stR f r
theorem stR.cg {f g : Nat → Int} : ∀ {st : List Bool}, stR f st → (∀ j, j < st.length → g j = f j) → stR g st
  | [], _, _ => trivial
  | b :: r, h, e => ⟨(e r.length (by simp only [List.length_cons]; omega)).trans h.1, stR.cg h.2 (fun j hj => e j (by simp only [List.length_cons]; omega))⟩
end STK
