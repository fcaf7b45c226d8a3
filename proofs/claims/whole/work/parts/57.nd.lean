/-! matters that are not known, the least of them -/
section NDS
variable {X : mX} {d : Nat} {σ : mS} {Q : Option mV → mS → Prop}
def nd (m k : Nat) : Nat := m ^^^ (m &&& k)
theorem nd_bit (m k i : Nat) : (nd m k).testBit i = (m.testBit i && !(k.testBit i)) := by
  unfold nd
  rw [Nat.testBit_xor, Nat.testBit_and]
  cases m.testBit i <;> cases k.testBit i <;> rfl
theorem nd_lt {m k : Nat} (h : m < 4096) : nd m k < 4096 :=
  Nat.xor_lt_two_pow (n := 12) h (Nat.lt_of_le_of_lt Nat.and_le_left h)
theorem m1_bit : ∀ i, i < 32 → (-1 : Int32).toBitVec.getLsbD i = true := by decide
theorem i32_nd (m k : Nat) : Int32.ofNat m &&& (Int32.ofNat k ^^^ (-1)) = Int32.ofNat (nd m k) := by
  apply Int32.toBitVec_inj.mp
  apply BitVec.eq_of_getLsbD_eq
  intro i hi
  rw [Int32.toBitVec_and, Int32.toBitVec_xor]
  show (BitVec.ofNat 32 m &&& (BitVec.ofNat 32 k ^^^ (-1 : Int32).toBitVec)).getLsbD i = (BitVec.ofNat 32 (nd m k)).getLsbD i
  rw [BitVec.getLsbD_and, BitVec.getLsbD_xor, BitVec.getLsbD_ofNat, BitVec.getLsbD_ofNat, BitVec.getLsbD_ofNat, nd_bit, m1_bit i hi]
  cases m.testBit i <;> cases k.testBit i <;> simp [hi]
theorem band_nd {m k : Nat} (hm : m < 4096) : band m (bxor k (-1)) = ((nd m k : Nat) : Int) := by
  have := nd_lt (k := k) hm
  unfold band bxor
  rw [iI_back, iI_nat, iI_nat, show Int32.ofInt (-1) = -1 from rfl, i32_nd, i32_toInt (by omega)]
theorem pc_nd (m k : Nat) : pc (nd m k) + pc (m &&& k) = pc m := by
  have : ∀ j, pcA (nd m k) j + pcA (m &&& k) j = pcA m j := by
    intro j
    induction j with
    | zero => rfl
    | succ j ih =>
      simp only [pcA, nd_bit, Nat.testBit_and]
      have : (m.testBit j && !(k.testBit j)).toNat + (m.testBit j && k.testBit j).toNat = (m.testBit j).toNat := by cases m.testBit j <;> cases k.testBit j <;> rfl
      omega
  exact this 12
set_option maxRecDepth 100000 in
theorem ntz_x : ∀ n : Nat, n < 4096 → n ≠ 0 → (band (bxor n (-1)) ((n : Int) - 1), (lob n : Int)) ∈ [((0 : Int), (1 : Int)), (1, 2), (3, 4), (7, 8), (15, 16), (31, 32), (63, 64), (127, 128), (255, 256), (511, 512), (1023, 1024), (2047, 2048)] := by decide +kernel
set_option maxRecDepth 100000 in
theorem lob_lt : ∀ n : Nat, n < 4096 → lob n < 4096 := by decide +kernel
theorem lob_0 : lob 0 = 0 := by decide
theorem c_ntz {n : Nat} (hn : n < 4096) (h0 : n ≠ 0) (hQ : ∀ z, bshl 1 z = (lob n : Int) → Q (some (vI z)) σ) : CALL X d (0, 0) MJ6_numberOfTrailingZeros_0f7a4 [vI (n : Int)] σ Q := by
  have h := ntz_x n hn h0
  simp only [List.mem_cons, Prod.mk.injEq, List.not_mem_nil, or_false] at h
  refine B_J6_numberOfTrailingZeros_0f7a4 ?_
  rcases h with ⟨hw, hl⟩ | ⟨hw, hl⟩ | ⟨hw, hl⟩ | ⟨hw, hl⟩ | ⟨hw, hl⟩ | ⟨hw, hl⟩ | ⟨hw, hl⟩ | ⟨hw, hl⟩ | ⟨hw, hl⟩ | ⟨hw, hl⟩ | ⟨hw, hl⟩ | ⟨hw, hl⟩
  all_goals rw [hw]
  all_goals rw [hl] at hQ
  all_goals repeat' first | decide | exact hQ _ (by decide) | (intro hh; first | (exfalso; revert hh; decide) | skip) | refine ⟨?_, ?_⟩
theorem or_lt {a b : Nat} (ha : a < 4096) (hb : b < 4096) : a ||| b < 4096 := Nat.or_lt_two_pow (n := 12) ha hb
end NDS
