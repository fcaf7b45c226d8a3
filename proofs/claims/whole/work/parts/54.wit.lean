/-! what a border gives, and what a guard comes to: pure words -/
section WITS
/-- one test of a border over the six facts -/
def evT (f : Nat → Int) (t : Int) : Bool :=
  if t / 100 % 3 = 0 then decide (f (t / 100 / 3).toNat < t % 100) else if t / 100 % 3 = 1 then decide (f (t / 100 / 3).toNat = t % 100) else decide (t % 100 < f (t / 100 / 3).toNat)
def evS (f : Nat → Int) (c : Int) (st : List Bool) : List Bool :=
  if c = 0 then (!(st.headD false)) :: st.tail else if c = 1 then (st.tail.headD false && st.headD false) :: st.tail.tail else if c = 2 then (st.tail.headD false || st.headD false) :: st.tail.tail else evT f (c - 3) :: st
def evl (f : Nat → Int) : List Int → List Bool → List Bool
  | [], st => st
  | c :: cs, st => evl f cs (evS f c st)
def holC (f : Nat → Int) (c : mCl) : Bool := (evl f c.2.2 []).headD false
def bonK (f : Nat → Int) : List mCl → Int
  | [] => 0
  | c :: B => (if holC f c then worC c else 0) + bonK f B
def bonS (f : Nat → Int) (B : List mCl) : Int := bonK f (keepC B)
theorem bonS_nil (f : Nat → Int) : bonS f [] = 0 := rfl
theorem bonS_cons (f : Nat → Int) (c : mCl) (B : List mCl) : bonS f (c :: B) = (if c.1 < 2 then (if holC f c then worC c else 0) else 0) + bonS f B := by
  unfold bonS keepC
  by_cases h : c.1 < 2
  · rw [List.filter_cons_of_pos (by simpa using h), if_pos h]
    rfl
  · rw [List.filter_cons_of_neg (by simpa using h), if_neg h, Int.zero_add]
theorem worC_r {c : mCl} (h : okC c) : -99 ≤ worC c ∧ worC c ≤ 99 := by
  obtain ⟨h1, h2, -⟩ := h
  unfold worC
  split <;> omega
theorem bonS_r (f : Nat → Int) : ∀ (B : List mCl), (∀ c ∈ B, okC c) → -(99 * (B.length : Int)) ≤ bonS f B ∧ bonS f B ≤ 99 * (B.length : Int)
  | [], _ => by rw [bonS_nil]; decide
  | c :: B, h => by
    have ih := bonS_r f B (fun q hq => h q (List.mem_cons_of_mem _ hq))
    have hc := worC_r (h c (List.mem_cons_self))
    rw [bonS_cons, List.length_cons]
    split
    · split <;> omega
    · omega
/-- the six facts of a guard -/
def facF (Y : mY) (p : Nat) (v : Int) (n : Nat) : Nat → Int := fun k => if k = 0 then (p : Int) else if k = 1 then Y 126 p else if k = 2 then v else if k = 3 then Y 129 p / 10 else if k = 4 then (n : Int) else Y 125 11 % 10
/-- by kinds: kind t, v, how tired tr, the hour hr, the sum s, how many matters n, the row's part g -/
def witC (t v tr hr s : Int) (n : Nat) (g : Int) : Int :=
  if t = 1 then s + v else if t = 2 then s.tdiv 2 + 1 else if t = 3 then (if 2 ≤ n then s else 0) else if t = 4 then s + v + (if hr % 3 = 0 then 3 else 0) else if t = 5 then s.tdiv 2 + 1 - (if 30 ≤ tr then 4 else 0) else if t = 6 then (if 2 ≤ n then s else 0) + g - 4 else s
def sumN (B : List mCl) (Y : mY) (p : Nat) (v : Int) (n k : Nat) : Int := 2 * (k : Int) - ((n : Int) - (k : Int)) - Y 129 p / 10 + bonS (facF Y p v n) B
/-- n matters, k of them known -/
def witN (B : List mCl) (Y : mY) (p : Nat) (v : Int) (n k : Nat) : Int := witC (Y 126 p) v (Y 129 p) (Y 125 11) (sumN B Y p v n k) n (Y 130 (4 * p + n % 4))
def witS (B : List mCl) (Y : mY) (p : Nat) (v : Int) (kn m : Nat) : Int := witN B Y p v (pc m) (pc (m &&& kn))
def ansS (B : List mCl) (Y : mY) (p : Nat) (v : Int) (kn m : Nat) : Bool := decide (0 < witS B Y p v kn m)
theorem witN_cg {B : List mCl} {Y Y' : mY} {p : Nat} {v : Int} {n k : Nat} (h1 : Y' 126 p = Y 126 p) (h2 : Y' 129 p = Y 129 p) (h3 : Y' 125 11 = Y 125 11) (h4 : Y' 130 (4 * p + n % 4) = Y 130 (4 * p + n % 4)) : witN B Y' p v n k = witN B Y p v n k := by
  unfold witN sumN
  have e : facF Y' p v n = facF Y p v n := by
    funext j
    unfold facF
    rw [h1, h2, h3]
  rw [e, h1, h2, h3, h4]
theorem pc_and_le (m k : Nat) : pc (m &&& k) ≤ pc m := by
  have : ∀ j, pcA (m &&& k) j ≤ pcA m j := by
    intro j
    induction j with
    | zero => exact Nat.le_refl _
    | succ j ih =>
      simp only [pcA, Nat.testBit_and]
      have : (m.testBit j && k.testBit j).toNat ≤ (m.testBit j).toNat := by cases m.testBit j <;> cases k.testBit j <;> decide
      omega
  exact this 12
/-- what is held by a yard: no border, or the border's clauses, on both sides -/
def HB (σ : mS) (h : Int) (B : List mCl) : Prop :=
  ((∀ c ∈ B, okC c) ∧ B.length ≤ 10) ∧ (σ.2.1 83 1 = σ.2.1 125 18 ∧ 0 ≤ σ.2.1 125 18 ∧ σ.2.1 125 18 ≤ 6 ∧ σ.2.1 125 26 ≤ 600) ∧ ((h = -1 ∧ B = []) ∨ (0 ≤ h ∧ h < σ.2.1 125 18 ∧ RepM σ.2.1 h.toNat B ∧ RepX σ.2.1 h.toNat B))
/-- places that what is held doesn't hang on -/
def okD (D : Nat → Nat → Prop) : Prop := ∀ a k, D a k → ¬ (a = 83 ∧ k = 1) ∧ ¬ (85 ≤ a ∧ a ≤ 102 ∧ a % 3 ≠ 0) ∧ ¬ (a = 125 ∧ (k = 18 ∨ k = 26)) ∧ ¬ (136 ≤ a ∧ a ≤ 141)
theorem HB.fr {σ σ' : mS} {h : Int} {B : List mCl} {D : Nat → Nat → Prop} (hb : HB σ h B) (ha : Agk D σ σ') (hD : okD D) : HB σ' h B := by
  have nd : ∀ a k, ¬ (¬ (a = 83 ∧ k = 1) ∧ ¬ (85 ≤ a ∧ a ≤ 102 ∧ a % 3 ≠ 0) ∧ ¬ (a = 125 ∧ (k = 18 ∨ k = 26)) ∧ ¬ (136 ≤ a ∧ a ≤ 141)) → σ'.2.1 a k = σ.2.1 a k := fun a k h => ha.2.2 a k (fun q => h (hD a k q))
  have ne : ∀ a, (85 ≤ a ∧ a ≤ 102 ∧ a % 3 ≠ 0) ∨ (136 ≤ a ∧ a ≤ 141) → σ'.2.1 a = σ.2.1 a := fun a h => funext fun k => nd a k (by omega)
  obtain ⟨h1, h2, h3⟩ := hb
  unfold HB
  rw [nd 125 18 (by omega), nd 83 1 (by omega), nd 125 26 (by omega)]
  refine ⟨h1, h2, ?_⟩
  rcases h3 with h3 | ⟨k1, k2, k3, k4⟩
  · exact Or.inl h3
  · refine Or.inr ⟨k1, k2, ?_, ?_⟩
    · unfold RepM
      rw [ne 136 (by omega), ne 137 (by omega), ne 138 (by omega), ne 139 (by omega), ne 140 (by omega), ne 141 (by omega), nd 125 26 (by omega)]
      exact k3
    · unfold RepX
      rw [ne (85 + 3 * h.toNat) (by omega), ne (85 + 3 * h.toNat + 1) (by omega)]
      exact k4
theorem InvB.hb {σ : mS} (hb : InvB σ) {h : Int} (h1 : -1 ≤ h ∧ h < σ.2.1 125 18) : ∃ B, HB σ h B := by
  obtain ⟨b1, b2, b3, b4⟩ := hb
  by_cases hz : h = -1
  · exact ⟨[], ⟨fun c hc => (by cases hc), by decide⟩, ⟨b2, by omega, by omega, by omega⟩, Or.inl ⟨hz, rfl⟩⟩
  · obtain ⟨B, k1, k2, k3, k4⟩ := b4 h.toNat (by omega)
    exact ⟨B, ⟨k2, k1.2⟩, ⟨b2, by omega, by omega, by omega⟩, Or.inr ⟨by omega, by omega, k3, k4⟩⟩
/-- a yard of the given one (y), with the border that it holds -/
def YB (σ : mS) (y : Nat) (Y : mY) (B : List mCl) : Prop := Sh σ ∧ isY y ∧ YR σ y Y ∧ WFY (σ.2.1 125 18) Y ∧ HB σ (Y 125 19) B
/-- the reference's yard, with the border that it holds -/
def MB (σ : mS) (B : List mCl) : Prop := Sh σ ∧ WFY (σ.2.1 125 18) σ.2.1 ∧ HB σ (σ.2.1 125 19) B
theorem Inv.bB {σ : mS} (hi : Inv σ) : ∃ B, MB σ B ∧ YB σ 1 σ.2.1 B := by
  obtain ⟨B, hB⟩ := hi.2.2.2.1.hb hi.2.1.2.1.2.2.2.1
  exact ⟨B, ⟨hi.1, hi.2.1.2.1, hB⟩, ⟨hi.1, Or.inl rfl, hi.2.1.1, hi.2.1.2.1, hB⟩⟩
theorem YB.fr {σ σ' : mS} {y : Nat} {Y : mY} {B : List mCl} {D : Nat → Nat → Prop} (h : YB σ y Y B) (ha : Agk D σ σ') (hD : okD D) (hy : ∀ a k, D a k → ¬ FYx y a k) : YB σ' y Y B := by
  refine ⟨ha.1, h.2.1, h.2.2.1.cg (fun a k q => ha.2.2 a k (fun q' => hy a k q' q)) (fun _ _ _ => rfl), ?_, h.2.2.2.2.fr ha hD⟩
  rw [ha.2.2 125 18 (fun q => (hD _ _ q).2.2.1 ⟨rfl, Or.inl rfl⟩)]
  exact h.2.2.2.1
theorem MB.fr {σ σ' : mS} {B : List mCl} {D : Nat → Nat → Prop} (h : MB σ B) (ha : Agk D σ σ') (hD : okD D) (hy : ∀ a k, D a k → ¬ FYm a k) : MB σ' B := by
  have m : ∀ a k, FYm a k → σ'.2.1 a k = σ.2.1 a k := fun a k q => ha.2.2 a k (fun q' => hy a k q' q)
  refine ⟨ha.1, ?_, ?_⟩
  · rw [m 125 18 (by unfold FYm; omega)]
    exact h.2.1.cg m
  · rw [m 125 19 (by unfold FYm; omega)]
    exact h.2.2.fr ha hD
end WITS
