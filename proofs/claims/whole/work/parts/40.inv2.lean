/-! the whole of what holds between two calls, and what of it a call can touch -/
/-- but for the places of D all ints are as they were, and all longs -/
def Agk (D : Nat → Nat → Prop) (σ σ' : mS) : Prop := Sh σ' ∧ σ'.2.2.1 = σ.2.2.1 ∧ ∀ a k, ¬ D a k → σ'.2.1 a k = σ.2.1 a k
theorem Agk.rf {D : Nat → Nat → Prop} {σ : mS} (hs : Sh σ) : Agk D σ σ := ⟨hs, rfl, fun _ _ _ => rfl⟩
theorem Agk.tr {D D' E : Nat → Nat → Prop} {σ σ1 σ2 : mS} (h1 : Agk D σ σ1) (h2 : Agk D' σ1 σ2) (hD : ∀ a k, D a k → E a k) (hD' : ∀ a k, D' a k → E a k) : Agk E σ σ2 :=
  ⟨h2.1, h2.2.1.trans h1.2.1, fun a k ha => (h2.2.2 a k (fun h => ha (hD' a k h))).trans (h1.2.2 a k (fun h => ha (hD a k h)))⟩
theorem Agk.mono {D E : Nat → Nat → Prop} {σ σ1 : mS} (h : Agk D σ σ1) (hD : ∀ a k, D a k → E a k) : Agk E σ σ1 := ⟨h.1, h.2.1, fun a k ha => h.2.2 a k (fun q => ha (hD a k q))⟩
theorem Agk.sI {D : Nat → Nat → Prop} {σ σ' : mS} (h : Agk D σ σ') {a k : Nat} {z : Int} (hs : Sh (sI σ' a k z)) (ha : D a k) : Agk D σ (sI σ' a k z) := by
  refine ⟨hs, h.2.1, fun b j hb => ?_⟩
  rw [sI_at, if_neg]
  · exact h.2.2 b j hb
  · rintro ⟨rfl, rfl⟩
    exact hb ha
theorem Pushed.agk {a k t : Nat} {bs : List Int} {σ σ' : mS} (h : Pushed a k t bs σ σ') : Agk (fun b j => b = t ∨ (b = a ∧ j = k)) σ σ' :=
  ⟨h.1, h.2.2.1, fun b j hb => h.2.1 b j (fun e => hb (Or.inl e)) (fun e => hb (Or.inr e))⟩
theorem Ag.agk {D : Nat → Prop} {σ σ' : mS} (h : Ag D σ σ') (hl : σ'.2.2.1 = σ.2.2.1) : Agk (fun a _ => D a) σ σ' := ⟨h.1, hl, fun a k ha => h.i ha k⟩
/-- a clause of a border: its word, its number, its codes -/
abbrev mCl : Type := Int × Int × List Int
def cl0 : mCl := (0, 0, [])
/-- how deep the codes leave the row of answers; none, if they are no E -/
def dp : List Int → Nat → Option Nat
  | [], d => some d
  | c :: cs, d => if c = 0 then (if 1 ≤ d then dp cs d else none) else if c = 1 ∨ c = 2 then (if 2 ≤ d then dp cs (d - 1) else none) else if 3 ≤ c ∧ c < 1803 ∧ d < 30 then dp cs (d + 1) else none
def okC (c : mCl) : Prop := (0 ≤ c.1 ∧ c.1 ≤ 2) ∧ (0 ≤ c.2.1 ∧ c.2.1 ≤ 99) ∧ (c.1 < 2 → dp c.2.2 0 = some 1) ∧ c.2.2.length ≤ 100
def worC (c : mCl) : Int := if c.1 = 0 then c.2.1 else -c.2.1
def restC (B : List mCl) : Int := B.foldl (fun r c => if c.1 = 2 then c.2.1 else r) 5
def keepC (B : List mCl) : List mCl := B.filter (fun c => decide (c.1 < 2))
def RepM (μ : mY) (b : Nat) (B : List mCl) : Prop :=
  μ 136 b = B.length ∧ ∀ i, i < B.length → μ 137 (10 * b + i) = (B.getD i cl0).1 ∧ μ 138 (10 * b + i) = (B.getD i cl0).2.1 ∧ 0 ≤ μ 139 (10 * b + i) ∧ μ 140 (10 * b + i) = (B.getD i cl0).2.2.length ∧ μ 139 (10 * b + i) + μ 140 (10 * b + i) ≤ μ 125 26 ∧ ∀ j : Nat, j < (B.getD i cl0).2.2.length → μ 141 ((μ 139 (10 * b + i)).toNat + j) = (B.getD i cl0).2.2.getD j 0
/-- the class's signs of what keen and dull it keeps: each clause's codes, its worth behind them -/
def flX : List mCl → List Int
  | [] => []
  | c :: K => c.2.2 ++ (10000 + worC c) :: flX K
def RepX (μ : mY) (b : Nat) (B : List mCl) : Prop :=
  μ (85 + 3 * b) 3 = restC B ∧ μ (85 + 3 * b) 2 = (flX (keepC B)).length ∧ (flX (keepC B)).length ≤ 100 ∧ ∀ j, j < (flX (keepC B)).length → μ (85 + 3 * b + 1) j = (flX (keepC B)).getD j 0
/-- BORDERS -/
def InvB (σ : mS) : Prop :=
  (0 ≤ σ.2.1 125 18 ∧ σ.2.1 125 18 ≤ 6) ∧ σ.2.1 83 1 = σ.2.1 125 18 ∧ (0 ≤ σ.2.1 125 26 ∧ σ.2.1 125 26 ≤ 100 * σ.2.1 125 18) ∧
  ∀ b : Nat, (b : Int) < σ.2.1 125 18 → ∃ B : List mCl, (1 ≤ B.length ∧ B.length ≤ 10) ∧ (∀ c ∈ B, okC c) ∧ RepM σ.2.1 b B ∧ RepX σ.2.1 b B
/-- what now stands in the yard -/
def InvY (σ : mS) : Prop := YR σ 1 σ.2.1 ∧ WFY (σ.2.1 125 18) σ.2.1 ∧ σ.2.1 125 11 ≤ 9999
/-- THE IMAGE -/
def InvI (σ : mS) : Prop := (σ.2.1 0 8 = 0 ∨ σ.2.1 0 8 = 1) ∧ σ.2.1 125 40 = σ.2.1 0 8 ∧ (σ.2.1 0 8 = 1 → YR σ 28 (imgV 151 σ.2.1) ∧ WFY (σ.2.1 125 18) (imgV 151 σ.2.1) ∧ imgV 151 σ.2.1 125 11 ≤ 9999)
def Inv (σ : mS) : Prop := Sh σ ∧ InvY σ ∧ InvI σ ∧ InvB σ ∧ InvD σ ∧ InvE σ ∧ InvF σ
section FRAME
variable {D : Nat → Nat → Prop} {σ σ' : mS}
theorem InvE.fr (h : InvE σ) (ha : Agk D σ σ') (hD : ∀ a k, D a k → a < 113 ∨ (124 < a ∧ a ≠ 155 ∧ a ≠ 156)) : InvE σ' := by
  have nd : ∀ a k, ¬ (a < 113 ∨ (124 < a ∧ a ≠ 155 ∧ a ≠ 156)) → σ'.2.1 a k = σ.2.1 a k := fun a k h => ha.2.2 a k (fun q => h (hD a k q))
  intro t ht
  obtain ⟨h1, h2, ⟨h3, h4⟩, h5⟩ := h t ht
  rw [nd 155 t (by omega), nd 156 t (by omega), nd (113 + 2 * t) 1 (by omega), nd (113 + 2 * t) 2 (by omega), ha.2.1]
  exact ⟨h1, h2, ⟨h3, h4⟩, h5⟩
theorem InvF.fr (h : InvF σ) (ha : Agk D σ σ') (hD : ∀ a k, D a k → a ≠ 110 ∧ a ≠ 111 ∧ a ≠ 150 ∧ (a = 125 → k ≠ 38)) : InvF σ' := by
  have nd : ∀ a k, ¬ (a ≠ 110 ∧ a ≠ 111 ∧ a ≠ 150 ∧ (a = 125 → k ≠ 38)) → σ'.2.1 a k = σ.2.1 a k := fun a k h => ha.2.2 a k (fun q => h (hD a k q))
  obtain ⟨h1, h2, h3⟩ := h
  unfold InvF
  rw [nd 125 38 (by omega), nd 110 1 (by omega)]
  refine ⟨h1, h2, fun i hi hl => ?_⟩
  rw [nd 111 i (by omega), nd 150 i (by omega)]
  exact h3 i hi hl
theorem InvD.fr (h : InvD σ) (ha : Agk D σ σ') (hD : ∀ a k, D a k → (a = 108 → k ≠ 1) ∧ a ≠ 109 ∧ a ≠ 135 ∧ (a = 125 → k ≠ 12)) : InvD σ' := by
  have nd : ∀ a k, ¬ ((a = 108 → k ≠ 1) ∧ a ≠ 109 ∧ a ≠ 135 ∧ (a = 125 → k ≠ 12)) → σ'.2.1 a k = σ.2.1 a k := fun a k h => ha.2.2 a k (fun q => h (hD a k q))
  obtain ⟨h1, h2, h3⟩ := h
  unfold InvD
  rw [nd 125 12 (by omega), nd 108 1 (by omega)]
  refine ⟨h1, h2, fun i hl => ?_⟩
  rw [nd 109 i (by omega), nd 135 i (by omega)]
  exact h3 i hl
/-- places of the yard that stands now, in the reference -/
def FYm (a k : Nat) : Prop := (a = 125 ∧ (k = 0 ∨ k = 6 ∨ k = 11 ∨ k = 18 ∨ k = 19 ∨ k = 28 ∨ k = 32 ∨ k = 35)) ∨ (126 ≤ a ∧ a ≤ 134) ∨ (143 ≤ a ∧ a ≤ 149)
/-- places of a yard in the class -/
def FYx (y a k : Nat) : Prop := (a = y ∧ (5 ≤ k ∧ k ≤ 8)) ∨ (y + 1 ≤ a ∧ a ≤ y + 26)
theorem YR.cg {y : Nat} {Y Y' : mY} (h : YR σ y Y) (hx : ∀ a k, FYx y a k → σ'.2.1 a k = σ.2.1 a k) (hm : ∀ a k, FYm a k → Y' a k = Y a k) : YR σ' y Y' := by
  have mx : ∀ a k, FYx y a k → σ'.2.1 a k = σ.2.1 a k := hx
  obtain ⟨⟨a1, a2, a3, a4⟩, b, c, ⟨d1, d2⟩, ⟨e1, e2⟩, ⟨f1, f2⟩⟩ := h
  unfold FYx at mx
  unfold FYm at hm
  refine ⟨⟨?_, ?_, ?_, ?_⟩, fun p hp => ⟨?_, ?_, ?_, ?_, fun j hj => ?_⟩, fun q hq => ⟨?_, ?_, ?_, ?_⟩, ⟨?_, fun i hi => ⟨?_, ?_, ?_⟩⟩, ⟨?_, fun i hi => ⟨?_, ?_⟩⟩, ⟨?_, fun i hi => ⟨?_, ?_⟩⟩⟩
  · rw [mx _ _ (by omega), hm _ _ (by omega), a1]
  · rw [mx _ _ (by omega), hm _ _ (by omega), a2]
  · rw [mx _ _ (by omega), hm _ _ (by omega), a3]
  · rw [mx _ _ (by omega), hm _ _ (by omega), a4]
  · rw [mx _ _ (by omega), hm _ _ (by omega), (b p hp).1]
  · rw [mx _ _ (by omega), hm _ _ (by omega), (b p hp).2.1]
  · rw [mx _ _ (by omega), hm _ _ (by omega), (b p hp).2.2.1]
  · rw [mx _ _ (by omega), hm _ _ (by omega), (b p hp).2.2.2.1]
  · rw [mx _ _ (by omega), hm _ _ (by omega), (b p hp).2.2.2.2 j hj]
  · rw [mx _ _ (by omega), hm _ _ (by omega), (c q hq).1]
  · rw [mx _ _ (by omega), hm _ _ (by omega), (c q hq).2.1]
  · rw [mx _ _ (by omega), hm _ _ (by omega), (c q hq).2.2.1]
  · rw [mx _ _ (by omega), hm _ _ (by omega), (c q hq).2.2.2]
  · rw [mx _ _ (by omega), hm _ _ (by omega), d1]
  · rw [mx _ _ (by omega), hm _ _ (by omega), (d2 i hi).1]
  · rw [mx _ _ (by omega), hm _ _ (by omega), (d2 i hi).2.1]
  · rw [mx _ _ (by omega), hm _ _ (by omega), (d2 i hi).2.2]
  · rw [mx _ _ (by omega), hm _ _ (by omega), e1]
  · rw [mx _ _ (by omega), hm _ _ (by omega), (e2 i hi).1]
  · rw [mx _ _ (by omega), hm _ _ (by omega), hm _ _ (by omega)]
    exact (e2 i hi).2
  · rw [mx _ _ (by omega), hm _ _ (by omega), f1]
  · rw [mx _ _ (by omega), hm _ _ (by omega), (f2 i hi).1]
  · rw [mx _ _ (by omega), hm _ _ (by omega), (f2 i hi).2]
theorem WFY.cg {nb : Int} {Y Y' : mY} (h : WFY nb Y) (hm : ∀ a k, FYm a k → Y' a k = Y a k) : WFY nb Y' := by
  unfold FYm at hm
  unfold WFY
  rw [hm 125 0 (by omega), hm 125 6 (by omega), hm 125 11 (by omega), hm 125 19 (by omega), hm 125 28 (by omega), hm 125 32 (by omega), hm 125 35 (by omega)]
  have e : ∀ a, (126 ≤ a ∧ a ≤ 134) ∨ (143 ≤ a ∧ a ≤ 149) → Y' a = Y a := fun a ha => funext fun k => hm a k (by omega)
  rw [e 126 (by omega), e 127 (by omega), e 128 (by omega), e 129 (by omega), e 130 (by omega), e 131 (by omega), e 132 (by omega), e 133 (by omega), e 134 (by omega), e 143 (by omega), e 144 (by omega), e 145 (by omega), e 146 (by omega), e 147 (by omega), e 148 (by omega), e 149 (by omega)]
  exact h
theorem InvY.fr (h : InvY σ) (ha : Agk D σ σ') (hD : ∀ a k, D a k → ¬ FYm a k ∧ ¬ FYx 1 a k) : InvY σ' := by
  have m : ∀ a k, FYm a k → σ'.2.1 a k = σ.2.1 a k := fun a k q => ha.2.2 a k (fun q' => (hD a k q').1 q)
  refine ⟨h.1.cg (fun a k q => ha.2.2 a k (fun q' => (hD a k q').2 q)) m, ?_, ?_⟩
  · rw [m 125 18 (by unfold FYm; omega)]
    exact h.2.1.cg m
  · rw [m 125 11 (by unfold FYm; omega)]
    exact h.2.2
theorem imgV_cg {b : Nat} {μ μ' : mY} (h : μ' b = μ b) : ∀ a k, FYm a k → k ≠ 18 ∨ a ≠ 125 → imgV b μ' a k = imgV b μ a k := by
  intro a k hf hk
  unfold imgV
  rw [h]
  unfold FYm at hf
  have hf' : (a = 125 ∧ (k = 0 ∨ k = 6 ∨ k = 11 ∨ k = 19 ∨ k = 28 ∨ k = 32 ∨ k = 35)) ∨ a = 126 ∨ a = 127 ∨ a = 128 ∨ a = 129 ∨ a = 130 ∨ a = 131 ∨ a = 132 ∨ a = 133 ∨ a = 134 ∨ a = 143 ∨ a = 144 ∨ a = 145 ∨ a = 146 ∨ a = 147 ∨ a = 148 ∨ a = 149 := by omega
  rcases hf' with ⟨rfl, rfl | rfl | rfl | rfl | rfl | rfl | rfl⟩ | rfl | rfl | rfl | rfl | rfl | rfl | rfl | rfl | rfl | rfl | rfl | rfl | rfl | rfl | rfl | rfl
  all_goals rfl
theorem YR.cg' {y : Nat} {Y Y' : mY} (h : YR σ y Y) (hx : ∀ a k, FYx y a k → σ'.2.1 a k = σ.2.1 a k) (hm : ∀ a k, FYm a k → k ≠ 18 ∨ a ≠ 125 → Y' a k = Y a k) : YR σ' y Y' := by
  have := h.cg (σ' := σ') (Y' := fun a k => if a = 125 ∧ k = 18 then Y 125 18 else Y' a k) hx (fun a k hf => by
    by_cases hz : a = 125 ∧ k = 18
    · rw [if_pos hz, hz.1, hz.2]
    · rw [if_neg hz]
      exact hm a k hf (by omega))
  exact this
theorem WFY.cg' {nb : Int} {Y Y' : mY} (h : WFY nb Y) (hm : ∀ a k, FYm a k → k ≠ 18 ∨ a ≠ 125 → Y' a k = Y a k) : WFY nb Y' := by
  have := h.cg (Y' := fun a k => if a = 125 ∧ k = 18 then Y 125 18 else Y' a k) (fun a k hf => by
    by_cases hz : a = 125 ∧ k = 18
    · rw [if_pos hz, hz.1, hz.2]
    · rw [if_neg hz]
      exact hm a k hf (by omega))
  exact this
theorem InvI.fr (h : InvI σ) (ha : Agk D σ σ') (hD : ∀ a k, D a k → ¬ (a = 0 ∧ k = 8) ∧ ¬ (a = 125 ∧ (k = 18 ∨ k = 40)) ∧ a ≠ 151 ∧ ¬ FYx 28 a k) : InvI σ' := by
  have nd : ∀ a k, ¬ (¬ (a = 0 ∧ k = 8) ∧ ¬ (a = 125 ∧ (k = 18 ∨ k = 40)) ∧ a ≠ 151 ∧ ¬ FYx 28 a k) → σ'.2.1 a k = σ.2.1 a k := fun a k h => ha.2.2 a k (fun q => h (hD a k q))
  obtain ⟨h1, h2, h3⟩ := h
  have e164 : σ'.2.1 151 = σ.2.1 151 := funext fun k => nd 151 k (by omega)
  have im := imgV_cg e164
  unfold InvI
  rw [nd 0 8 (by omega), nd 125 40 (by omega), nd 125 18 (by omega), im 125 11 (by unfold FYm; omega) (by omega)]
  refine ⟨h1, h2, fun h4 => ?_⟩
  obtain ⟨k1, k2, k3⟩ := h3 h4
  exact ⟨k1.cg' (fun a k q => nd a k (fun q' => q'.2.2.2 q)) im, k2.cg' im, k3⟩
theorem InvB.fr (h : InvB σ) (ha : Agk D σ σ') (hD : ∀ a k, D a k → ¬ (a = 83 ∧ k = 1) ∧ ¬ (85 ≤ a ∧ a ≤ 102 ∧ a % 3 ≠ 0) ∧ ¬ (a = 125 ∧ (k = 18 ∨ k = 26)) ∧ ¬ (136 ≤ a ∧ a ≤ 141)) : InvB σ' := by
  have nd : ∀ a k, ¬ (¬ (a = 83 ∧ k = 1) ∧ ¬ (85 ≤ a ∧ a ≤ 102 ∧ a % 3 ≠ 0) ∧ ¬ (a = 125 ∧ (k = 18 ∨ k = 26)) ∧ ¬ (136 ≤ a ∧ a ≤ 141)) → σ'.2.1 a k = σ.2.1 a k := fun a k h => ha.2.2 a k (fun q => h (hD a k q))
  have ne : ∀ a, (85 ≤ a ∧ a ≤ 102 ∧ a % 3 ≠ 0) ∨ (136 ≤ a ∧ a ≤ 141) → σ'.2.1 a = σ.2.1 a := fun a h => funext fun k => nd a k (by omega)
  obtain ⟨h1, h2, h3, h4⟩ := h
  unfold InvB
  rw [nd 125 18 (by omega), nd 83 1 (by omega), nd 125 26 (by omega)]
  refine ⟨h1, h2, h3, fun b hb => ?_⟩
  obtain ⟨B, k1, k2, k3, k4⟩ := h4 b hb
  refine ⟨B, k1, k2, ?_, ?_⟩
  · unfold RepM
    rw [ne 136 (by omega), ne 137 (by omega), ne 138 (by omega), ne 139 (by omega), ne 140 (by omega), ne 141 (by omega), nd 125 26 (by omega)]
    exact k3
  · unfold RepX
    rw [ne (85 + 3 * b) (by omega), ne (85 + 3 * b + 1) (by omega)]
    exact k4
end FRAME
