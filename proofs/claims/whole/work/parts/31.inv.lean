/-! what holds between two calls of the law: the class's cells say what the reference's cells say -/
/-- but for the cells of D all is as it was -/
def Ag (D : Nat → Prop) (σ σ' : mS) : Prop := Sh σ' ∧ ∀ a, ¬ D a → σ'.2.1 a = σ.2.1 a ∧ σ'.2.2.1 a = σ.2.2.1 a
theorem Ag.rf {D : Nat → Prop} {σ : mS} (hs : Sh σ) : Ag D σ σ := ⟨hs, fun _ _ => ⟨rfl, rfl⟩⟩
theorem Ag.tr {D D' E : Nat → Prop} {σ σ1 σ2 : mS} (h1 : Ag D σ σ1) (h2 : Ag D' σ1 σ2) (hD : ∀ a, D a → E a) (hD' : ∀ a, D' a → E a) : Ag E σ σ2 :=
  ⟨h2.1, fun a ha => ⟨(h2.2 a (fun h => ha (hD' a h))).1.trans (h1.2 a (fun h => ha (hD a h))).1, (h2.2 a (fun h => ha (hD' a h))).2.trans (h1.2 a (fun h => ha (hD a h))).2⟩⟩
theorem Ag.mono {D E : Nat → Prop} {σ σ1 : mS} (h : Ag D σ σ1) (hD : ∀ a, D a → E a) : Ag E σ σ1 := ⟨h.1, fun a ha => h.2 a (fun q => ha (hD a q))⟩
theorem Ag.i {D : Nat → Prop} {σ σ' : mS} (h : Ag D σ σ') {a : Nat} (ha : ¬ D a) (k : Nat) : σ'.2.1 a k = σ.2.1 a k := by rw [(h.2 a ha).1]
theorem Ag.l {D : Nat → Prop} {σ σ' : mS} (h : Ag D σ σ') {a : Nat} (ha : ¬ D a) (k : Nat) : σ'.2.2.1 a k = σ.2.2.1 a k := by rw [(h.2 a ha).2]
theorem sI_at (σ : mS) (a k : Nat) (z : Int) (b j : Nat) : (sI σ a k z).2.1 b j = if b = a ∧ j = k then z else σ.2.1 b j := rfl
theorem sI_l (σ : mS) (a k : Nat) (z : Int) : (sI σ a k z).2.2.1 = σ.2.2.1 := rfl
theorem sL_at (σ : mS) (a k : Nat) (z : Int) (b j : Nat) : (sL σ a k z).2.2.1 b j = if b = a ∧ j = k then z else σ.2.2.1 b j := rfl
theorem sL_i (σ : mS) (a k : Nat) (z : Int) : (sL σ a k z).2.1 = σ.2.1 := rfl
theorem sR_i (σ : mS) (a k : Nat) (r : Option Nat) : (sR σ a k r).2.1 = σ.2.1 := rfl
theorem sR_l (σ : mS) (a k : Nat) (r : Option Nat) : (sR σ a k r).2.2.1 = σ.2.2.1 := rfl
theorem sI_of (σ : mS) (a k : Nat) (z : Int) {b : Nat} (h : b ≠ a) : (sI σ a k z).2.1 b = σ.2.1 b := mU_ne _ _ _ _ h
theorem sL_of (σ : mS) (a k : Nat) (z : Int) {b : Nat} (h : b ≠ a) : (sL σ a k z).2.2.1 b = σ.2.2.1 b := mU_ne _ _ _ _ h
theorem Ag.sI {D : Nat → Prop} {σ σ' : mS} (h : Ag D σ σ') {a k : Nat} {z : Int} (hs : Sh (sI σ' a k z)) (ha : D a) : Ag D σ (sI σ' a k z) :=
  ⟨hs, fun b hb => ⟨(sI_of σ' a k z (b := b) (fun e => hb (by rw [e]; exact ha))).trans (h.2 b hb).1, (h.2 b hb).2⟩⟩
theorem Ag.sL {D : Nat → Prop} {σ σ' : mS} (h : Ag D σ σ') {a k : Nat} {z : Int} (hs : Sh (sL σ' a k z)) (ha : D a) : Ag D σ (sL σ' a k z) :=
  ⟨hs, fun b hb => ⟨(h.2 b hb).1, (sL_of σ' a k z (b := b) (fun e => hb (by rw [e]; exact ha))).trans (h.2 b hb).2⟩⟩
/-- a yard as the reference has it: places by the reference's own cells -/
abbrev mY : Type := Nat → Nat → Int
def YR (σ : mS) (y : Nat) (Y : mY) : Prop :=
  (σ.2.1 y 5 = Y 125 0 ∧ σ.2.1 y 6 = Y 125 6 ∧ σ.2.1 y 7 = Y 125 11 ∧ σ.2.1 y 8 = Y 125 19) ∧
  (∀ p, p < 6 → σ.2.1 (y + 9 + 3 * p) 0 = Y 126 p ∧ σ.2.1 (y + 9 + 3 * p) 1 = Y 127 p ∧ σ.2.1 (y + 9 + 3 * p) 2 = Y 128 p ∧ σ.2.1 (y + 9 + 3 * p) 3 = Y 129 p ∧ ∀ j, j < 4 → σ.2.1 (y + 9 + 3 * p + 1) j = Y 130 (4 * p + j)) ∧
  (∀ q, q < 6 → σ.2.1 (y + 11 + 3 * q) 0 = Y 131 q ∧ σ.2.1 (y + 11 + 3 * q) 1 = Y 132 q ∧ σ.2.1 (y + 11 + 3 * q) 2 = Y 133 q ∧ σ.2.1 (y + 11 + 3 * q) 3 = Y 134 q) ∧
  (σ.2.1 (y + 3) 2 = Y 125 28 ∧ ∀ i, i < 5 → σ.2.1 (y + 4) (3 * i) = Y 143 i ∧ σ.2.1 (y + 4) (3 * i + 1) = Y 144 i ∧ σ.2.1 (y + 4) (3 * i + 2) = Y 145 i) ∧
  (σ.2.1 (y + 5) 2 = Y 125 32 ∧ ∀ i, i < 10 → σ.2.1 (y + 6) (3 * i) = Y 146 i ∧ (Y 146 i = 0 ∨ σ.2.1 (y + 6) (3 * i + 1) = Y 147 i)) ∧
  (σ.2.1 (y + 7) 2 = Y 125 35 ∧ ∀ i, i < 8 → σ.2.1 (y + 8) (3 * i) = Y 148 i ∧ σ.2.1 (y + 8) (3 * i + 1) = Y 149 i)
/-- the places of a yard are as they should be (nb: how many borders there are) -/
def WFY (nb : Int) (Y : mY) : Prop :=
  (0 ≤ Y 125 0 ∧ Y 125 0 ≤ 6) ∧ (0 ≤ Y 125 6 ∧ Y 125 6 ≤ 6) ∧ (0 ≤ Y 125 11 ∧ Y 125 11 ≤ 1000000) ∧ (-1 ≤ Y 125 19 ∧ Y 125 19 < nb) ∧
  (∀ p, p < 6 → (0 ≤ Y 126 p ∧ Y 126 p ≤ 6) ∧ (0 ≤ Y 127 p ∧ Y 127 p ≤ 9) ∧ (0 ≤ Y 128 p ∧ Y 128 p < 4096) ∧ (0 ≤ Y 129 p ∧ Y 129 p ≤ 99)) ∧
  (∀ i, i < 24 → 0 ≤ Y 130 i ∧ Y 130 i ≤ 9) ∧
  (∀ q, q < 6 → (0 ≤ Y 131 q ∧ Y 131 q < 4096) ∧ (0 ≤ Y 132 q ∧ Y 132 q ≤ 99) ∧ (0 ≤ Y 133 q ∧ Y 133 q ≤ 2) ∧ ((q : Int) < Y 125 6 → Y 134 q = -5 ∨ (0 ≤ Y 134 q ∧ Y 134 q < Y 125 0))) ∧
  ((0 ≤ Y 125 28 ∧ Y 125 28 ≤ 5) ∧ ∀ i : Nat, (i : Int) < Y 125 28 → (0 ≤ Y 143 i ∧ Y 143 i < Y 125 0) ∧ (0 ≤ Y 144 i ∧ Y 144 i < Y 125 6) ∧ (Y 145 i = 0 ∨ Y 145 i = 1)) ∧
  ((0 ≤ Y 125 32 ∧ Y 125 32 ≤ 10) ∧ ∀ i : Nat, (i : Int) < Y 125 32 → (0 ≤ Y 146 i ∧ Y 146 i ≤ 3) ∧ (Y 146 i = 1 → 0 ≤ Y 147 i ∧ Y 147 i / 10 < Y 125 6 ∧ Y 147 i % 10 < Y 125 0) ∧ (Y 146 i = 2 → 0 ≤ Y 147 i ∧ Y 147 i < Y 125 0) ∧ (Y 146 i = 3 → 0 ≤ Y 147 i ∧ Y 147 i < Y 125 6)) ∧
  ((0 ≤ Y 125 35 ∧ Y 125 35 ≤ 8) ∧ ∀ i : Nat, (i : Int) < Y 125 35 → (0 ≤ Y 148 i ∧ Y 148 i < Y 125 6) ∧ (0 ≤ Y 149 i ∧ Y 149 i ≤ 99))
/-- a yard as the reference keeps it in a row of 130 (cell b) -/
def imgV (b : Nat) (μ : mY) : mY := fun f i =>
  if f = 125 then (if i = 0 then μ b 123 else if i = 6 then μ b 124 else if i = 11 then μ b 125 else if i = 28 then μ b 126 else if i = 32 then μ b 127 else if i = 35 then μ b 128 else if i = 19 then μ b 129 else μ 125 i)
  else if f = 126 then μ b i else if f = 127 then μ b (6 + i) else if f = 128 then μ b (12 + i) else if f = 129 then μ b (18 + i)
  else if f = 131 then μ b (24 + i) else if f = 132 then μ b (30 + i) else if f = 133 then μ b (36 + i) else if f = 134 then μ b (42 + i)
  else if f = 130 then μ b (48 + i) else if f = 143 then μ b (72 + i) else if f = 144 then μ b (77 + i) else if f = 145 then μ b (82 + i)
  else if f = 146 then μ b (87 + i) else if f = 147 then μ b (97 + i) else if f = 148 then μ b (107 + i) else if f = 149 then μ b (115 + i) else μ f i
/-- TAPES -/
def InvE (σ : mS) : Prop := ∀ t, t < 6 → (-1 ≤ σ.2.1 155 t ∧ σ.2.1 155 t ≤ 4) ∧ (0 ≤ σ.2.1 156 t ∧ σ.2.1 156 t ≤ 60 ∧ (σ.2.1 155 t ≠ -1 ∨ σ.2.1 156 t = 0)) ∧ (σ.2.1 (113 + 2 * t) 1 = σ.2.1 155 t ∧ σ.2.1 (113 + 2 * t) 2 = σ.2.1 156 t) ∧ ∀ i, i < 60 → σ.2.2.1 (113 + 2 * t + 1) i = σ.2.2.1 157 (60 * t + i)
/-- THE TRACE -/
def InvF (σ : mS) : Prop := (0 ≤ σ.2.1 125 38 ∧ σ.2.1 125 38 ≤ 100000) ∧ σ.2.1 110 1 = σ.2.1 125 38 ∧ ∀ i : Nat, i < 20 → (i : Int) < σ.2.1 125 38 → σ.2.1 111 i = σ.2.1 150 i
/-- THE TEXT -/
def InvD (σ : mS) : Prop := (0 ≤ σ.2.1 125 12 ∧ σ.2.1 125 12 ≤ 100) ∧ σ.2.1 108 1 = σ.2.1 125 12 ∧ ∀ i : Nat, (i : Int) < σ.2.1 125 12 → σ.2.1 109 i = σ.2.1 135 i ∧ (0 ≤ σ.2.1 135 i ∧ σ.2.1 135 i ≤ 127)
theorem InvE.ag {D : Nat → Prop} {σ σ' : mS} (h : InvE σ) (ha : Ag D σ σ') (hD : ∀ a, D a → a < 113 ∨ (124 < a ∧ a ≠ 155 ∧ a ≠ 156 ∧ a ≠ 157)) : InvE σ' := by
  have nd : ∀ a, ¬ (a < 113 ∨ (124 < a ∧ a ≠ 155 ∧ a ≠ 156 ∧ a ≠ 157)) → ¬ D a := fun a h q => h (hD a q)
  intro t ht
  obtain ⟨h1, h2, ⟨h3, h4⟩, h5⟩ := h t ht
  rw [ha.i (nd 155 (by omega)), ha.i (nd 156 (by omega)), ha.i (nd (113 + 2 * t) (by omega)), ha.i (nd (113 + 2 * t) (by omega))]
  refine ⟨h1, h2, ⟨h3, h4⟩, fun i hi => ?_⟩
  rw [ha.l (nd (113 + 2 * t + 1) (by omega)), ha.l (nd 157 (by omega))]
  exact h5 i hi
theorem InvF.ag {D : Nat → Prop} {σ σ' : mS} (h : InvF σ) (ha : Ag D σ σ') (hD : ∀ a, D a → a ≠ 110 ∧ a ≠ 111 ∧ a ≠ 150) (h38 : σ'.2.1 125 38 = σ.2.1 125 38) : InvF σ' := by
  obtain ⟨h1, h2, h3⟩ := h
  unfold InvF
  rw [h38, ha.i (a := 110) (fun q => (hD _ q).1 rfl)]
  refine ⟨h1, h2, fun i hi hl => ?_⟩
  rw [ha.i (a := 111) (fun q => (hD _ q).2.1 rfl), ha.i (a := 150) (fun q => (hD _ q).2.2 rfl)]
  exact h3 i hi hl
theorem InvD.ag {D : Nat → Prop} {σ σ' : mS} (h : InvD σ) (ha : Ag D σ σ') (hD : ∀ a, D a → a ≠ 109 ∧ a ≠ 135) (h12 : σ'.2.1 125 12 = σ.2.1 125 12) (h1 : σ'.2.1 108 1 = σ.2.1 108 1) : InvD σ' := by
  obtain ⟨h2, h3, h4⟩ := h
  unfold InvD
  rw [h12, h1]
  refine ⟨h2, h3, fun i hi => ?_⟩
  rw [ha.i (a := 109) (fun q => (hD _ q).1 rfl), ha.i (a := 135) (fun q => (hD _ q).2 rfl)]
  exact h4 i hi
