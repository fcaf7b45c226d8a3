/-! the state behind both constructors: which cells there are, what refers to what (found by running the constructors' bytecode: wip/whole/layout.py) -/
def SHL : List (Nat × Nat) := [(10, 0), (9, 0), (54, 6), (55, 6), (6, 0), (50, 15), (6, 0), (50, 30), (6, 0), (50, 24), (3, 0), (50, 4), (4, 0), (3, 0), (50, 4), (4, 0), (3, 0), (50, 4), (4, 0), (3, 0), (50, 4), (4, 0), (3, 0), (50, 4), (4, 0), (3, 0), (50, 4), (4, 0), (9, 0), (54, 6), (55, 6), (6, 0), (50, 15), (6, 0), (50, 30), (6, 0), (50, 24), (3, 0), (50, 4), (4, 0), (3, 0), (50, 4), (4, 0), (3, 0), (50, 4), (4, 0), (3, 0), (50, 4), (4, 0), (3, 0), (50, 4), (4, 0), (3, 0), (50, 4), (4, 0), (9, 0), (54, 6), (55, 6), (6, 0), (50, 15), (6, 0), (50, 30), (6, 0), (50, 24), (3, 0), (50, 4), (4, 0), (3, 0), (50, 4), (4, 0), (3, 0), (50, 4), (4, 0), (3, 0), (50, 4), (4, 0), (3, 0), (50, 4), (4, 0), (3, 0), (50, 4), (4, 0), (2, 0), (7, 0), (56, 6), (1, 0), (50, 100), (50, 6), (1, 0), (50, 100), (50, 6), (1, 0), (50, 100), (50, 6), (1, 0), (50, 100), (50, 6), (1, 0), (50, 100), (50, 6), (1, 0), (50, 100), (50, 6), (50, 6), (50, 448), (50, 13), (50, 5), (50, 5), (5, 0), (51, 100), (0, 0), (50, 20), (57, 6), (8, 0), (53, 60), (8, 0), (53, 60), (8, 0), (53, 60), (8, 0), (53, 60), (8, 0), (53, 60), (8, 0), (53, 60), (11, 0), (50, 6), (50, 6), (50, 6), (50, 6), (50, 24), (50, 6), (50, 6), (50, 6), (50, 6), (50, 100), (50, 6), (50, 61), (50, 61), (50, 61), (50, 61), (50, 800), (52, 110), (50, 5), (50, 5), (50, 5), (50, 10), (50, 10), (50, 8), (50, 8), (50, 20), (50, 130), (50, 130), (50, 6), (50, 6), (50, 6), (50, 6), (53, 360)]
def MRT : List (List (Option Nat)) := [[some 1, some 28, some 55, some 82, some 83, some 108, some 110, some 112], [some 2, some 3, some 4, some 6, some 8], [some 10, some 13, some 16, some 19, some 22, some 25], [some 12, some 15, some 18, some 21, some 24, some 27], [some 5], [], [some 7], [], [some 9], [], [none, none, none, none, some 11], [], [], [none, none, none, none, some 14], [], [], [none, none, none, none, some 17], [], [], [none, none, none, none, some 20], [], [], [none, none, none, none, some 23], [], [], [none, none, none, none, some 26], [], [], [some 29, some 30, some 31, some 33, some 35], [some 37, some 40, some 43, some 46, some 49, some 52], [some 39, some 42, some 45, some 48, some 51, some 54], [some 32], [], [some 34], [], [some 36], [], [none, none, none, none, some 38], [], [], [none, none, none, none, some 41], [], [], [none, none, none, none, some 44], [], [], [none, none, none, none, some 47], [], [], [none, none, none, none, some 50], [], [], [none, none, none, none, some 53], [], [], [some 56, some 57, some 58, some 60, some 62], [some 64, some 67, some 70, some 73, some 76, some 79], [some 66, some 69, some 72, some 75, some 78, some 81], [some 59], [], [some 61], [], [some 63], [], [none, none, none, none, some 65], [], [], [none, none, none, none, some 68], [], [], [none, none, none, none, some 71], [], [], [none, none, none, none, some 74], [], [], [none, none, none, none, some 77], [], [], [none, none, none, none, some 80], [], [], [some 83, some 103, some 104, some 105, some 106, some 107], [some 84], [some 85, some 88, some 91, some 94, some 97, some 100], [some 86, some 87], [], [], [some 89, some 90], [], [], [some 92, some 93], [], [], [some 95, some 96], [], [], [some 98, some 99], [], [], [some 101, some 102], [], [], [], [], [], [], [], [some 109], [], [some 111], [], [some 113, some 115, some 117, some 119, some 121, some 123], [some 114], [], [some 116], [], [some 118], [], [some 120], [], [some 122], [], [some 124], [], [none, some 126, some 127, some 128, some 129, some 130, none, some 131, some 132, some 133, some 134, none, none, some 135, none, none, none, none, none, none, some 136, some 137, some 138, some 139, some 140, some 141, none, some 142, none, some 143, some 144, some 145, none, some 146, some 147, none, some 148, some 149, none, some 150, none, some 151, some 152, some 153, some 154, none, some 155, some 156, some 157], [], [], [], [], [], [], [], [], [], [], [], [], [], [], [], [], [], [], [], [], [], [], [], [], [], [], [], [], [], [], [], []]
def MR (a k : Nat) : Option Nat := (MRT.getD a []).getD k none
abbrev isY (y : Nat) : Prop := y = 1 ∨ y = 28 ∨ y = 55
def isG (g : Nat) : Prop := ∃ y p, isY y ∧ p < 6 ∧ g = y + 9 + 3 * p
def isQ (q : Nat) : Prop := ∃ y p, isY y ∧ p < 6 ∧ q = y + 11 + 3 * p
def isR (r : Nat) : Prop := ∃ y, isY y ∧ (r = y + 3 ∨ r = y + 5 ∨ r = y + 7)
def isB (b : Nat) : Prop := ∃ j, j < 6 ∧ b = 85 + 3 * j
def isT (t : Nat) : Prop := ∃ j, j < 6 ∧ t = 113 + 2 * j
/-- how many rows of three a Rows may hold -/
def rM (r : Nat) : Nat := if r = 4 ∨ r = 31 ∨ r = 58 then 5 else if r = 6 ∨ r = 33 ∨ r = 60 then 10 else 8
/-- which BORDER a yard has -/
theorem hB_some {z : Int} {b : Nat} (h : hB z = some b) : 0 ≤ z ∧ b = 85 + 3 * z.toNat := by
  unfold hB at h
  split at h
  · cases h
  · rename_i h0
    cases h
    exact ⟨by omega, rfl⟩
theorem hB_none {z : Int} (h : hB z = none) : z < 0 := by
  unfold hB at h
  split at h
  · assumption
  · cases h
def Sh (σ : mS) : Prop := σ.1 = SHL ∧ (∀ a k, ¬ (a = 108 ∧ k = 5) → σ.2.2.2 a k = MR a k) ∧ (∀ a k, -2147483648 ≤ σ.2.1 a k ∧ σ.2.1 a k ≤ 2147483647) ∧ (∀ a k, -9223372036854775808 ≤ σ.2.2.1 a k ∧ σ.2.2.1 a k ≤ 9223372036854775807) ∧ (∀ r, isR r → σ.2.1 r 1 = rM r)
theorem Sh.k {σ : mS} (hs : Sh σ) {a : Nat} {kd : Nat × Nat} (h : SHL[a]? = some kd) : σ.1[a]? = some kd := by rw [hs.1]; exact h
theorem Sh.r {σ : mS} (hs : Sh σ) {a k : Nat} {v : Option Nat} (hn : ¬ (a = 108 ∧ k = 5)) (h : MR a k = v) : σ.2.2.2 a k = v := by rw [hs.2.1 a k hn]; exact h
theorem isY_mem {y : Nat} (hy : isY y) : y ∈ [1, 28, 55] := by rcases hy with rfl | rfl | rfl <;> decide
set_option maxRecDepth 100000 in
theorem tY : ∀ y ∈ [1, 28, 55], SHL[y]? = some (9, 0) ∧ SHL[y + 1]? = some (54, 6) ∧ SHL[y + 2]? = some (55, 6) ∧ MR y 0 = some (y + 1) ∧ MR y 1 = some (y + 2) ∧ MR y 2 = some (y + 3) ∧ MR y 3 = some (y + 5) ∧ MR y 4 = some (y + 7) := by decide +kernel
set_option maxRecDepth 100000 in
theorem tG : ∀ y ∈ [1, 28, 55], ∀ p, p < 6 → SHL[y + 9 + 3 * p]? = some (3, 0) ∧ SHL[y + 9 + 3 * p + 1]? = some (50, 4) ∧ SHL[y + 11 + 3 * p]? = some (4, 0) ∧ MR (y + 9 + 3 * p) 4 = some (y + 9 + 3 * p + 1) ∧ MR (y + 1) p = some (y + 9 + 3 * p) ∧ MR (y + 2) p = some (y + 11 + 3 * p) := by decide +kernel
set_option maxRecDepth 100000 in
theorem tR : ∀ y ∈ [1, 28, 55], (SHL[y + 3]? = some (6, 0) ∧ SHL[y + 3 + 1]? = some (50, 3 * rM (y + 3)) ∧ MR (y + 3) 0 = some (y + 3 + 1)) ∧ (SHL[y + 5]? = some (6, 0) ∧ SHL[y + 5 + 1]? = some (50, 3 * rM (y + 5)) ∧ MR (y + 5) 0 = some (y + 5 + 1)) ∧ (SHL[y + 7]? = some (6, 0) ∧ SHL[y + 7 + 1]? = some (50, 3 * rM (y + 7)) ∧ MR (y + 7) 0 = some (y + 7 + 1)) := by decide +kernel
set_option maxRecDepth 100000 in
theorem tBt : ∀ j, j < 6 → SHL[85 + 3 * j]? = some (1, 0) ∧ (SHL[85 + 3 * j + 1]? = some (50, 100) ∧ SHL[85 + 3 * j + 2]? = some (50, 6)) ∧ (MR (85 + 3 * j) 0 = some (85 + 3 * j + 1) ∧ MR (85 + 3 * j) 1 = some (85 + 3 * j + 2)) ∧ MR 84 j = some (85 + 3 * j) := by decide +kernel
set_option maxRecDepth 100000 in
theorem tTt : ∀ j, j < 6 → SHL[113 + 2 * j]? = some (8, 0) ∧ SHL[113 + 2 * j + 1]? = some (53, 60) ∧ MR (113 + 2 * j) 0 = some (113 + 2 * j + 1) ∧ MR 112 j = some (113 + 2 * j) := by decide +kernel
section SH
variable {σ : mS}
theorem kY (hs : Sh σ) {y : Nat} (hy : isY y) : σ.1[y]? = some (9, 0) := hs.k (tY y (isY_mem hy)).1
theorem kYG (hs : Sh σ) {y : Nat} (hy : isY y) : σ.1[y + 1]? = some (50 + 4, 6) := hs.k (tY y (isY_mem hy)).2.1
theorem kYQ (hs : Sh σ) {y : Nat} (hy : isY y) : σ.1[y + 2]? = some (50 + 5, 6) := hs.k (tY y (isY_mem hy)).2.2.1
theorem ne121 {y : Nat} (hy : isY y) {k j : Nat} (hj : j < 28) : ¬ (y + j = 108 ∧ k = 5) := by rcases hy with rfl | rfl | rfl <;> omega
theorem rY0 (hs : Sh σ) {y : Nat} (hy : isY y) : σ.2.2.2 y 0 = some (y + 1) := hs.r (by omega) (tY y (isY_mem hy)).2.2.2.1
theorem rY1 (hs : Sh σ) {y : Nat} (hy : isY y) : σ.2.2.2 y 1 = some (y + 2) := hs.r (by omega) (tY y (isY_mem hy)).2.2.2.2.1
theorem rY2 (hs : Sh σ) {y : Nat} (hy : isY y) : σ.2.2.2 y 2 = some (y + 3) := hs.r (by omega) (tY y (isY_mem hy)).2.2.2.2.2.1
theorem rY3 (hs : Sh σ) {y : Nat} (hy : isY y) : σ.2.2.2 y 3 = some (y + 5) := hs.r (by omega) (tY y (isY_mem hy)).2.2.2.2.2.2.1
theorem rY4 (hs : Sh σ) {y : Nat} (hy : isY y) : σ.2.2.2 y 4 = some (y + 7) := hs.r (by rcases hy with rfl | rfl | rfl <;> omega) (tY y (isY_mem hy)).2.2.2.2.2.2.2
theorem kG (hs : Sh σ) {g : Nat} (h : isG g) : σ.1[g]? = some (3, 0) := by
  obtain ⟨y, p, hy, hp, rfl⟩ := h
  exact hs.k (tG y (isY_mem hy) p hp).1
theorem kG1 (hs : Sh σ) {g : Nat} (h : isG g) : σ.1[g + 1]? = some (50, 4) := by
  obtain ⟨y, p, hy, hp, rfl⟩ := h
  exact hs.k (tG y (isY_mem hy) p hp).2.1
theorem rG4 (hs : Sh σ) {g : Nat} (h : isG g) : σ.2.2.2 g 4 = some (g + 1) := by
  obtain ⟨y, p, hy, hp, rfl⟩ := h
  exact hs.r (by rcases hy with rfl | rfl | rfl <;> omega) (tG y (isY_mem hy) p hp).2.2.2.1
theorem kQ (hs : Sh σ) {q : Nat} (h : isQ q) : σ.1[q]? = some (4, 0) := by
  obtain ⟨y, p, hy, hp, rfl⟩ := h
  exact hs.k (tG y (isY_mem hy) p hp).2.2.1
theorem eG (hs : Sh σ) {y : Nat} (hy : isY y) {i : Int} (h0 : 0 ≤ i) (h6 : i < 6) : σ.2.2.2 (y + 1) i.toNat = some (y + 9 + 3 * i.toNat) := hs.r (by rcases hy with rfl | rfl | rfl <;> omega) (tG y (isY_mem hy) i.toNat (by omega)).2.2.2.2.1
theorem eQ (hs : Sh σ) {y : Nat} (hy : isY y) {i : Int} (h0 : 0 ≤ i) (h6 : i < 6) : σ.2.2.2 (y + 2) i.toNat = some (y + 11 + 3 * i.toNat) := hs.r (by rcases hy with rfl | rfl | rfl <;> omega) (tG y (isY_mem hy) i.toNat (by omega)).2.2.2.2.2
theorem isG_of {y : Nat} (hy : isY y) {i : Int} (h0 : 0 ≤ i) (h6 : i < 6) : isG (y + 9 + 3 * i.toNat) := ⟨y, i.toNat, hy, by omega, rfl⟩
theorem isQ_of {y : Nat} (hy : isY y) {i : Int} (h0 : 0 ≤ i) (h6 : i < 6) : isQ (y + 11 + 3 * i.toNat) := ⟨y, i.toNat, hy, by omega, rfl⟩
theorem isR2 {y : Nat} (hy : isY y) : isR (y + 3) := ⟨y, hy, Or.inl rfl⟩
theorem isR3 {y : Nat} (hy : isY y) : isR (y + 5) := ⟨y, hy, Or.inr (Or.inl rfl)⟩
theorem isR4 {y : Nat} (hy : isY y) : isR (y + 7) := ⟨y, hy, Or.inr (Or.inr rfl)⟩
theorem kR (hs : Sh σ) {r : Nat} (h : isR r) : σ.1[r]? = some (6, 0) := by
  obtain ⟨y, hy, rfl | rfl | rfl⟩ := h
  · exact hs.k (tR y (isY_mem hy)).1.1
  · exact hs.k (tR y (isY_mem hy)).2.1.1
  · exact hs.k (tR y (isY_mem hy)).2.2.1
theorem kR1 (hs : Sh σ) {r : Nat} (h : isR r) : σ.1[r + 1]? = some (50, 3 * rM r) := by
  obtain ⟨y, hy, rfl | rfl | rfl⟩ := h
  · exact hs.k (tR y (isY_mem hy)).1.2.1
  · exact hs.k (tR y (isY_mem hy)).2.1.2.1
  · exact hs.k (tR y (isY_mem hy)).2.2.2.1
theorem rR0 (hs : Sh σ) {r : Nat} (h : isR r) : σ.2.2.2 r 0 = some (r + 1) := by
  obtain ⟨y, hy, rfl | rfl | rfl⟩ := h
  · exact hs.r (by omega) (tR y (isY_mem hy)).1.2.2
  · exact hs.r (by omega) (tR y (isY_mem hy)).2.1.2.2
  · exact hs.r (by omega) (tR y (isY_mem hy)).2.2.2.2
theorem rM_le (r : Nat) : rM r ≤ 10 := by unfold rM; split; omega; split <;> omega
theorem rM_r (r : Nat) : 3 * rM r ≤ 2147483647 := by have := rM_le r; omega
theorem kB (hs : Sh σ) {b : Nat} (h : isB b) : σ.1[b]? = some (1, 0) := by
  obtain ⟨j, hj, rfl⟩ := h
  exact hs.k (tBt j hj).1
theorem kB1 (hs : Sh σ) {b : Nat} (h : isB b) : σ.1[b + 1]? = some (50, 100) := by
  obtain ⟨j, hj, rfl⟩ := h
  exact hs.k (tBt j hj).2.1.1
theorem kB2 (hs : Sh σ) {b : Nat} (h : isB b) : σ.1[b + 2]? = some (50, 6) := by
  obtain ⟨j, hj, rfl⟩ := h
  exact hs.k (tBt j hj).2.1.2
theorem rB0 (hs : Sh σ) {b : Nat} (h : isB b) : σ.2.2.2 b 0 = some (b + 1) := by
  obtain ⟨j, hj, rfl⟩ := h
  exact hs.r (by omega) (tBt j hj).2.2.1.1
theorem rB1 (hs : Sh σ) {b : Nat} (h : isB b) : σ.2.2.2 b 1 = some (b + 2) := by
  obtain ⟨j, hj, rfl⟩ := h
  exact hs.r (by omega) (tBt j hj).2.2.1.2
theorem eB (hs : Sh σ) {i : Int} (h0 : 0 ≤ i) (h6 : i < 6) : σ.2.2.2 84 i.toNat = some (85 + 3 * i.toNat) := hs.r (by omega) (tBt i.toNat (by omega)).2.2.2
theorem isB_of {i : Int} (h0 : 0 ≤ i) (h6 : i < 6) : isB (85 + 3 * i.toNat) := ⟨i.toNat, by omega, rfl⟩
theorem kT (hs : Sh σ) {b : Nat} (h : isT b) : σ.1[b]? = some (8, 0) := by
  obtain ⟨j, hj, rfl⟩ := h
  exact hs.k (tTt j hj).1
theorem kT1 (hs : Sh σ) {b : Nat} (h : isT b) : σ.1[b + 1]? = some (53, 60) := by
  obtain ⟨j, hj, rfl⟩ := h
  exact hs.k (tTt j hj).2.1
theorem rT0 (hs : Sh σ) {b : Nat} (h : isT b) : σ.2.2.2 b 0 = some (b + 1) := by
  obtain ⟨j, hj, rfl⟩ := h
  exact hs.r (by omega) (tTt j hj).2.2.1
theorem eT (hs : Sh σ) {i : Int} (h0 : 0 ≤ i) (h6 : i < 6) : σ.2.2.2 112 i.toNat = some (113 + 2 * i.toNat) := hs.r (by omega) (tTt i.toNat (by omega)).2.2.2
theorem isT_of {i : Int} (h0 : 0 ≤ i) (h6 : i < 6) : isT (113 + 2 * i.toNat) := ⟨i.toNat, by omega, rfl⟩
theorem kIm (hs : Sh σ) {x : Nat} (h : x = 151 ∨ x = 152) : σ.1[x]? = some (50, 130) := by
  rcases h with rfl | rfl
  · exact hs.k rfl
  · exact hs.k rfl
theorem sh_I (hs : Sh σ) {a k : Nat} {z : Int} {kd : Nat × Nat} (hz : -2147483648 ≤ z ∧ z ≤ 2147483647) (hk : σ.1[a]? = some kd) (hne : kd.1 ≠ 6 ∨ k ≠ 1) : Sh (sI σ a k z) := by
  refine ⟨hs.1, hs.2.1, fun b j => ?_, hs.2.2.2.1, fun r hr => ?_⟩
  · simp only [sI, mU]
    split
    · exact hz
    · exact hs.2.2.1 b j
  · simp only [sI, mU]
    rw [if_neg]
    · exact hs.2.2.2.2 r hr
    · rintro ⟨rfl, rfl⟩
      have h2 := (kR hs hr).symm.trans hk
      cases h2
      rcases hne with h | h <;> exact h rfl
theorem sh_L (hs : Sh σ) {a k : Nat} {z : Int} (hz : -9223372036854775808 ≤ z ∧ z ≤ 9223372036854775807) : Sh (sL σ a k z) := by
  refine ⟨hs.1, hs.2.1, hs.2.2.1, fun b j => ?_, hs.2.2.2.2⟩
  simp only [sL, mU]
  split
  · exact hz
  · exact hs.2.2.2.1 b j
theorem sh_R (hs : Sh σ) {r : Option Nat} : Sh (sR σ 108 5 r) := by
  refine ⟨hs.1, fun b j h => ?_, hs.2.2⟩
  simp only [sR, mU]
  rw [if_neg h]
  exact hs.2.1 b j h
theorem sh_cpI (hs : Sh σ) {a0 sp a dp n : Nat} {m : Nat} (hk : σ.1[a]? = some (50, m)) : Sh (mCpI σ a0 sp a dp n) := by
  refine ⟨hs.1, hs.2.1, fun b j => ?_, hs.2.2.2.1, fun r hr => ?_⟩
  · simp only [mCpI]
    split
    · exact hs.2.2.1 _ _
    · exact hs.2.2.1 b j
  · simp only [mCpI]
    rw [if_neg]
    · exact hs.2.2.2.2 r hr
    · rintro ⟨rfl, -⟩
      have h2 := (kR hs hr).symm.trans hk
      cases h2
theorem sh_cpL (hs : Sh σ) {a0 sp a dp n : Nat} : Sh (mCpL σ a0 sp a dp n) := by
  refine ⟨hs.1, hs.2.1, hs.2.2.1, fun b j => ?_, hs.2.2.2.2⟩
  simp only [mCpL]
  split
  · exact hs.2.2.2.1 _ _
  · exact hs.2.2.2.1 b j
end SH
theorem toInt_r (x : Int32) : -2147483648 ≤ x.toInt ∧ x.toInt ≤ 2147483647 := by
  have h1 := Int32.le_toInt x
  have h2 := Int32.toInt_lt x
  omega
theorem toInt_rl (x : Int64) : -9223372036854775808 ≤ x.toInt ∧ x.toInt ≤ 9223372036854775807 := by
  have h1 := Int64.le_toInt x
  have h2 := Int64.toInt_lt x
  omega
def wI (x : Int) : Int := (Int32.ofInt x).toInt
theorem wI_r (x : Int) : -2147483648 ≤ wI x ∧ wI x ≤ 2147483647 := toInt_r _
theorem WP.nrm {X : mX} {d : Nat} {b : Nat × Nat} {M : mM} {pc : Nat} {l : List (Nat × mV)} {st : List mV} {σ : mS} {Q : Option mV → mS → Prop} {x : Int} (kk : WP X d b M pc l (vI (wI x) :: st) σ Q) : WP X d b M pc l (vI x :: st) σ Q := by
  intro g R p lau e s m args below meth c H locs cells slots mc ms real hC h1 h2 hE hH hS hr
  have h := kk g R p lau e s m args below meth c H locs cells slots mc ms real hC h1 h2 hE hH hS hr
  simp only [List.map_cons, rv, wI, Int32.ofInt_toInt] at h
  exact h
theorem wI_id {x : Int} (h : -2147483648 ≤ x ∧ x ≤ 2147483647) : wI x = x := iI_toInt h
theorem wI_lo {x : Int} (h : -2147483748 ≤ x ∧ x < -2147483648) : wI x = x + 4294967296 := by
  have e : Int32.ofInt x = Int32.ofInt (x + 4294967296) := by
    rw [Int32.ofInt_add]
    rw [show Int32.ofInt 4294967296 = 0 from rfl, Int32.add_zero]
  unfold wI
  rw [e, iI_toInt ⟨by omega, by omega⟩]
/-- a number less a small one, as the machine has it: in range it is that, else far above -/
theorem wI_sub {x c : Int} (h : -2147483648 ≤ x ∧ x ≤ 2147483647) (hc : 0 ≤ c ∧ c ≤ 100) : (wI (x - c) = x - c ∧ -2147483648 ≤ x - c) ∨ (2147483000 ≤ wI (x - c) ∧ x - c < -2147483648) := by
  by_cases h1 : -2147483648 ≤ x - c
  · exact Or.inl ⟨wI_id ⟨h1, by omega⟩, h1⟩
  · refine Or.inr ⟨?_, by omega⟩
    rw [wI_lo ⟨by omega, by omega⟩]
    omega
theorem band_r (x y : Int) : -2147483648 ≤ band x y ∧ band x y ≤ 2147483647 := toInt_r _
theorem bor_r (x y : Int) : -2147483648 ≤ bor x y ∧ bor x y ≤ 2147483647 := toInt_r _
theorem bxor_r (x y : Int) : -2147483648 ≤ bxor x y ∧ bxor x y ≤ 2147483647 := toInt_r _
theorem bshl_r (x y : Int) : -2147483648 ≤ bshl x y ∧ bshl x y ≤ 2147483647 := toInt_r _
theorem bshr_r (x y : Int) : -2147483648 ≤ bshr x y ∧ bshr x y ≤ 2147483647 := toInt_r _
theorem bushr_r (x y : Int) : -2147483648 ≤ bushr x y ∧ bushr x y ≤ 2147483647 := toInt_r _
theorem bi8_r (x : Int) : -2147483648 ≤ bi8 x ∧ bi8 x ≤ 2147483647 := toInt_r _
theorem bi16_r (x : Int) : -2147483648 ≤ bi16 x ∧ bi16 x ≤ 2147483647 := toInt_r _
theorem jand_r (x y : Int) : -9223372036854775808 ≤ jand x y ∧ jand x y ≤ 9223372036854775807 := toInt_rl _
theorem jor_r (x y : Int) : -9223372036854775808 ≤ jor x y ∧ jor x y ≤ 9223372036854775807 := toInt_rl _
theorem jshl_r (x y : Int) : -9223372036854775808 ≤ jshl x y ∧ jshl x y ≤ 9223372036854775807 := toInt_rl _
theorem jcmp_r (x y : Int) : -2147483648 ≤ jcmp x y ∧ jcmp x y ≤ 2147483647 := by unfold jcmp; split; decide; split <;> decide
theorem tdiv_r {x y : Int} (hx : -2147483648 < x ∧ x ≤ 2147483647) (_ : -2147483648 ≤ y ∧ y ≤ 2147483647) : -2147483648 ≤ x.tdiv y ∧ x.tdiv y ≤ 2147483647 := by
  have h1 := Int.natAbs_tdiv_le_natAbs x y
  omega
theorem tmod_r {x y : Int} (hy : -2147483648 ≤ y ∧ y ≤ 2147483647) (hy0 : ¬ y = 0) : -2147483648 ≤ x.tmod y ∧ x.tmod y ≤ 2147483647 := by
  have h1 : (x.tmod y).natAbs < y.natAbs := by
    rw [Int.natAbs_tmod]
    exact Nat.mod_lt _ (by omega)
  omega
theorem max_r {x y : Int} (hx : -2147483648 ≤ x ∧ x ≤ 2147483647) (hy : -2147483648 ≤ y ∧ y ≤ 2147483647) : -2147483648 ≤ max x y ∧ max x y ≤ 2147483647 := by omega
theorem min_r {x y : Int} (hx : -2147483648 ≤ x ∧ x ≤ 2147483647) (hy : -2147483648 ≤ y ∧ y ≤ 2147483647) : -2147483648 ≤ min x y ∧ min x y ≤ 2147483647 := by omega
theorem rng_l {x : Int} (hx : -2147483648 ≤ x ∧ x ≤ 2147483647) : -9223372036854775808 ≤ x ∧ x ≤ 9223372036854775807 := by omega
theorem rng_b {x : Int} (hx : -128 ≤ x ∧ x ≤ 127) : -2147483648 ≤ x ∧ x ≤ 2147483647 := by omega
theorem rng_z {x : Int} (hx : x = 0 ∨ x = 1) : -2147483648 ≤ x ∧ x ≤ 2147483647 := by omega
theorem tabA_all : ∀ n, n < 7 → -2147483648 ≤ tabA.getD n 0 ∧ tabA.getD n 0 ≤ 2147483647 := by decide
theorem tabA_r (n : Nat) : -2147483648 ≤ tabA.getD n 0 ∧ tabA.getD n 0 ≤ 2147483647 := by
  by_cases h : n < 7
  · exact tabA_all n h
  · rw [List.getD_eq_getElem?_getD, List.getElem?_eq_none (by simp [tabA]; omega)]
    decide
theorem tabB_all : ∀ n, n < 21 → -2147483648 ≤ tabB.getD n 0 ∧ tabB.getD n 0 ≤ 2147483647 := by decide
theorem tabB_r (n : Nat) : -2147483648 ≤ tabB.getD n 0 ∧ tabB.getD n 0 ≤ 2147483647 := by
  by_cases h : n < 21
  · exact tabB_all n h
  · rw [List.getD_eq_getElem?_getD, List.getElem?_eq_none (by simp [tabB]; omega)]
    decide
