/-! what holds between two calls of the law: the class's cells say what the reference's cells say -/
/-- but for the cells of D all is as it was -/
def Ag (D : Nat → Prop) (σ σ' : mS) : Prop := Sh σ' ∧ ∀ a, ¬ D a → σ'.2.1 a = σ.2.1 a ∧ σ'.2.2.1 a = σ.2.2.1 a
theorem Ag.rf {D : Nat → Prop} {σ : mS} (hs : Sh σ) : Ag D σ σ := ⟨hs, fun _ _ => ⟨rfl, rfl⟩⟩
theorem Ag.tr {D D' E : Nat → Prop} {σ σ1 σ2 : mS} (h1 : Ag D σ σ1) (h2 : Ag D' σ1 σ2) (hD : ∀ a, D a → E a) (hD' : ∀ a, D' a → E a) : Ag E σ σ2 :=
  ⟨h2.1, fun a ha => ⟨(h2.2 a (fun h => ha (hD' a h))).1.trans (h1.2 a (fun h => ha (hD a h))).1, (h2.2 a (fun h => ha (hD' a h))).2.trans (h1.2 a (fun h => ha (hD a h))).2⟩⟩
theorem Ag.mono {D E : Nat → Prop} {σ σ1 : mS} (h : Ag D σ σ1) (hD : ∀ a, D a → E a) : Ag E σ σ1 := ⟨h.1, fun a ha => h.2 a (fun q => ha (hD a q))⟩
theorem Ag.i {D : Nat → Prop} {σ σ' : mS} (h : Ag D σ σ') {a : Nat} (ha : ¬ D a) (k : Nat) : σ'.2.1 a k = σ.2.1 a k := by rw [(h.2 a ha).1]
theorem Ag.l {D : Nat → Prop} {σ σ' : mS} (h : Ag D σ σ') {a : Nat} (ha : ¬ D a) (k : Nat) : σ'.2.2.1 a k = σ.2.2.1 a k := by rw [(h.2 a ha).2]
theorem sI_at (σ : mS) (a k : Nat) (z : Int) (b j : Nat) : (sI σ a k z).2.1 b j = if b = a ∧ j = k then z else σ.2.1 b j := rfl
theorem sI_l (σ : mS) (a k : Nat) (z : Int) : (sI σ a k z).2.2.1 = σ.2.2.1 := rfl
theorem sL_at (σ : mS) (a k : Nat) (z : Int) (b j : Nat) : (sL σ a k z).2.2.1 b j = if b = a ∧ j = k then z else σ.2.2.1 b j := rfl
theorem sL_i (σ : mS) (a k : Nat) (z : Int) : (sL σ a k z).2.1 = σ.2.1 := rfl
theorem sR_i (σ : mS) (a k : Nat) (r : Option Nat) : (sR σ a k r).2.1 = σ.2.1 := rfl
theorem sR_l (σ : mS) (a k : Nat) (r : Option Nat) : (sR σ a k r).2.2.1 = σ.2.2.1 := rfl
theorem sI_of (σ : mS) (a k : Nat) (z : Int) {b : Nat} (h : b ≠ a) : (sI σ a k z).2.1 b = σ.2.1 b := mU_ne _ _ _ _ h
theorem sL_of (σ : mS) (a k : Nat) (z : Int) {b : Nat} (h : b ≠ a) : (sL σ a k z).2.2.1 b = σ.2.2.1 b := mU_ne _ _ _ _ h
theorem Ag.sI {D : Nat → Prop} {σ σ' : mS} (h : Ag D σ σ') {a k : Nat} {z : Int} (hs : Sh (sI σ' a k z)) (ha : D a) : Ag D σ (sI σ' a k z) :=
  ⟨hs, fun b hb => ⟨(sI_of σ' a k z (b := b) (fun e => hb (by rw [e]; exact ha))).trans (h.2 b hb).1, (h.2 b hb).2⟩⟩
theorem Ag.sL {D : Nat → Prop} {σ σ' : mS} (h : Ag D σ σ') {a k : Nat} {z : Int} (hs : Sh (sL σ' a k z)) (ha : D a) : Ag D σ (sL σ' a k z) :=
  ⟨hs, fun b hb => ⟨(h.2 b hb).1, (sL_of σ' a k z (b := b) (fun e => hb (by rw [e]; exact ha))).trans (h.2 b hb).2⟩⟩
/-- a yard as the reference has it: places by the reference's own cells -/
abbrev mY : Type := Nat → Nat → Int
def YR (σ : mS) (y : Nat) (Y : mY) : Prop :=
  (σ.2.1 y 5 = Y 138 0 ∧ σ.2.1 y 6 = Y 138 6 ∧ σ.2.1 y 7 = Y 138 11 ∧ σ.2.1 y 8 = Y 138 19) ∧
  (∀ p, p < 6 → σ.2.1 (y + 9 + 3 * p) 0 = Y 139 p ∧ σ.2.1 (y + 9 + 3 * p) 1 = Y 140 p ∧ σ.2.1 (y + 9 + 3 * p) 2 = Y 141 p ∧ σ.2.1 (y + 9 + 3 * p) 3 = Y 142 p ∧ ∀ j, j < 4 → σ.2.1 (y + 9 + 3 * p + 1) j = Y 143 (4 * p + j)) ∧
  (∀ q, q < 6 → σ.2.1 (y + 11 + 3 * q) 0 = Y 144 q ∧ σ.2.1 (y + 11 + 3 * q) 1 = Y 145 q ∧ σ.2.1 (y + 11 + 3 * q) 2 = Y 146 q ∧ σ.2.1 (y + 11 + 3 * q) 3 = Y 147 q) ∧
  (σ.2.1 (y + 3) 2 = Y 138 28 ∧ ∀ i, i < 5 → σ.2.1 (y + 4) (3 * i) = Y 156 i ∧ σ.2.1 (y + 4) (3 * i + 1) = Y 157 i ∧ σ.2.1 (y + 4) (3 * i + 2) = Y 158 i) ∧
  (σ.2.1 (y + 5) 2 = Y 138 32 ∧ ∀ i, i < 10 → σ.2.1 (y + 6) (3 * i) = Y 159 i ∧ (Y 159 i = 0 ∨ σ.2.1 (y + 6) (3 * i + 1) = Y 160 i)) ∧
  (σ.2.1 (y + 7) 2 = Y 138 35 ∧ ∀ i, i < 8 → σ.2.1 (y + 8) (3 * i) = Y 161 i ∧ σ.2.1 (y + 8) (3 * i + 1) = Y 162 i)
/-- the places of a yard are as they should be (nb: how many borders there are) -/
def WFY (nb : Int) (Y : mY) : Prop :=
  (0 ≤ Y 138 0 ∧ Y 138 0 ≤ 6) ∧ (0 ≤ Y 138 6 ∧ Y 138 6 ≤ 6) ∧ (0 ≤ Y 138 11 ∧ Y 138 11 ≤ 1000000) ∧ (-1 ≤ Y 138 19 ∧ Y 138 19 < nb) ∧
  (∀ p, p < 6 → (0 ≤ Y 139 p ∧ Y 139 p ≤ 6) ∧ (0 ≤ Y 140 p ∧ Y 140 p ≤ 9) ∧ (0 ≤ Y 141 p ∧ Y 141 p < 4096) ∧ (0 ≤ Y 142 p ∧ Y 142 p ≤ 99)) ∧
  (∀ i, i < 24 → 0 ≤ Y 143 i ∧ Y 143 i ≤ 9) ∧
  (∀ q, q < 6 → (0 ≤ Y 144 q ∧ Y 144 q < 4096) ∧ (0 ≤ Y 145 q ∧ Y 145 q ≤ 99) ∧ (0 ≤ Y 146 q ∧ Y 146 q ≤ 2) ∧ ((q : Int) < Y 138 6 → Y 147 q = -5 ∨ (0 ≤ Y 147 q ∧ Y 147 q < Y 138 0))) ∧
  ((0 ≤ Y 138 28 ∧ Y 138 28 ≤ 5) ∧ ∀ i : Nat, (i : Int) < Y 138 28 → (0 ≤ Y 156 i ∧ Y 156 i < Y 138 0) ∧ (0 ≤ Y 157 i ∧ Y 157 i < Y 138 6) ∧ (Y 158 i = 0 ∨ Y 158 i = 1)) ∧
  ((0 ≤ Y 138 32 ∧ Y 138 32 ≤ 10) ∧ ∀ i : Nat, (i : Int) < Y 138 32 → (0 ≤ Y 159 i ∧ Y 159 i ≤ 3) ∧ (Y 159 i = 1 → 0 ≤ Y 160 i ∧ Y 160 i / 10 < Y 138 6 ∧ Y 160 i % 10 < Y 138 0) ∧ (Y 159 i = 2 → 0 ≤ Y 160 i ∧ Y 160 i < Y 138 0) ∧ (Y 159 i = 3 → 0 ≤ Y 160 i ∧ Y 160 i < Y 138 6)) ∧
  ((0 ≤ Y 138 35 ∧ Y 138 35 ≤ 8) ∧ ∀ i : Nat, (i : Int) < Y 138 35 → (0 ≤ Y 161 i ∧ Y 161 i < Y 138 6) ∧ (0 ≤ Y 162 i ∧ Y 162 i ≤ 99))
/-- a yard as the reference keeps it in a row of 130 (cell b) -/
def imgV (b : Nat) (μ : mY) : mY := fun f i =>
  if f = 138 then (if i = 0 then μ b 123 else if i = 6 then μ b 124 else if i = 11 then μ b 125 else if i = 28 then μ b 126 else if i = 32 then μ b 127 else if i = 35 then μ b 128 else if i = 19 then μ b 129 else μ 138 i)
  else if f = 139 then μ b i else if f = 140 then μ b (6 + i) else if f = 141 then μ b (12 + i) else if f = 142 then μ b (18 + i)
  else if f = 144 then μ b (24 + i) else if f = 145 then μ b (30 + i) else if f = 146 then μ b (36 + i) else if f = 147 then μ b (42 + i)
  else if f = 143 then μ b (48 + i) else if f = 156 then μ b (72 + i) else if f = 157 then μ b (77 + i) else if f = 158 then μ b (82 + i)
  else if f = 159 then μ b (87 + i) else if f = 160 then μ b (97 + i) else if f = 161 then μ b (107 + i) else if f = 162 then μ b (115 + i) else μ f i
/-- TAPES -/
def InvE (σ : mS) : Prop := ∀ t, t < 6 → (-1 ≤ σ.2.1 168 t ∧ σ.2.1 168 t ≤ 4) ∧ (0 ≤ σ.2.1 169 t ∧ σ.2.1 169 t ≤ 60 ∧ (σ.2.1 168 t ≠ -1 ∨ σ.2.1 169 t = 0)) ∧ (σ.2.1 (126 + 2 * t) 1 = σ.2.1 168 t ∧ σ.2.1 (126 + 2 * t) 2 = σ.2.1 169 t) ∧ ∀ i, i < 60 → σ.2.2.1 (126 + 2 * t + 1) i = σ.2.2.1 170 (60 * t + i)
/-- THE TRACE -/
def InvF (σ : mS) : Prop := (0 ≤ σ.2.1 138 38 ∧ σ.2.1 138 38 ≤ 100000) ∧ σ.2.1 123 1 = σ.2.1 138 38 ∧ ∀ i : Nat, i < 20 → (i : Int) < σ.2.1 138 38 → σ.2.1 124 i = σ.2.1 163 i
/-- THE TEXT -/
def InvD (σ : mS) : Prop := (0 ≤ σ.2.1 138 12 ∧ σ.2.1 138 12 ≤ 100) ∧ σ.2.1 121 1 = σ.2.1 138 12 ∧ ∀ i : Nat, (i : Int) < σ.2.1 138 12 → σ.2.1 122 i = σ.2.1 148 i ∧ (0 ≤ σ.2.1 148 i ∧ σ.2.1 148 i ≤ 127)
theorem InvE.ag {D : Nat → Prop} {σ σ' : mS} (h : InvE σ) (ha : Ag D σ σ') (hD : ∀ a, D a → a < 126 ∨ (137 < a ∧ a ≠ 168 ∧ a ≠ 169 ∧ a ≠ 170)) : InvE σ' := by
  have nd : ∀ a, ¬ (a < 126 ∨ (137 < a ∧ a ≠ 168 ∧ a ≠ 169 ∧ a ≠ 170)) → ¬ D a := fun a h q => h (hD a q)
  intro t ht
  obtain ⟨h1, h2, ⟨h3, h4⟩, h5⟩ := h t ht
  rw [ha.i (nd 168 (by omega)), ha.i (nd 169 (by omega)), ha.i (nd (126 + 2 * t) (by omega)), ha.i (nd (126 + 2 * t) (by omega))]
  refine ⟨h1, h2, ⟨h3, h4⟩, fun i hi => ?_⟩
  rw [ha.l (nd (126 + 2 * t + 1) (by omega)), ha.l (nd 170 (by omega))]
  exact h5 i hi
theorem InvF.ag {D : Nat → Prop} {σ σ' : mS} (h : InvF σ) (ha : Ag D σ σ') (hD : ∀ a, D a → a ≠ 123 ∧ a ≠ 124 ∧ a ≠ 163) (h38 : σ'.2.1 138 38 = σ.2.1 138 38) : InvF σ' := by
  obtain ⟨h1, h2, h3⟩ := h
  unfold InvF
  rw [h38, ha.i (a := 123) (fun q => (hD _ q).1 rfl)]
  refine ⟨h1, h2, fun i hi hl => ?_⟩
  rw [ha.i (a := 124) (fun q => (hD _ q).2.1 rfl), ha.i (a := 163) (fun q => (hD _ q).2.2 rfl)]
  exact h3 i hi hl
theorem InvD.ag {D : Nat → Prop} {σ σ' : mS} (h : InvD σ) (ha : Ag D σ σ') (hD : ∀ a, D a → a ≠ 122 ∧ a ≠ 148) (h12 : σ'.2.1 138 12 = σ.2.1 138 12) (h1 : σ'.2.1 121 1 = σ.2.1 121 1) : InvD σ' := by
  obtain ⟨h2, h3, h4⟩ := h
  unfold InvD
  rw [h12, h1]
  refine ⟨h2, h3, fun i hi => ?_⟩
  rw [ha.i (a := 122) (fun q => (hD _ q).1 rfl), ha.i (a := 148) (fun q => (hD _ q).2 rfl)]
  exact h4 i hi
