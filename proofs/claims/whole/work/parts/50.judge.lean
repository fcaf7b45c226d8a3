/-! judge -/
section JUDGE
variable {X : mX} {d : Nat} {σ : mS} {Q : Option mV → mS → Prop}
theorem jcmp_eq {x y : Int} : jcmp x y = 0 ↔ x = y := by
  unfold jcmp
  split
  · constructor <;> intro h <;> omega
  · split <;> (constructor <;> intro h <;> omega)
theorem jcmp_lt {x y : Int} : jcmp x y < 0 ↔ x < y := by
  unfold jcmp
  split
  · constructor <;> intro h <;> omega
  · split <;> (constructor <;> intro h <;> omega)
/-- the answer from the p-th guard on: none further looked at (m), place i of the tape (size z, items f), what they know (w) -/
def judS (z x2 : Int) (f w : Nat → Int) : Nat → Nat → Int
  | 0, _ => -5
  | m + 1, p => if x2 < 0 ∨ z ≤ x2 + p then 100 + p else if f (x2.toNat + p) = w p then judS z x2 f w m (p + 1) else p
theorem judS_r (z x2 : Int) (f w : Nat → Int) : ∀ m p : Nat, m + p ≤ 6 → -5 ≤ judS z x2 f w m p ∧ judS z x2 f w m p ≤ 200
  | 0, p, _ => ⟨by simp [judS], by simp [judS]⟩
  | m + 1, p, h => by
    simp only [judS]
    have := judS_r z x2 f w m (p + 1) (by omega)
    split
    · omega
    · split <;> omega
theorem m_judgeL (hi : Inv σ) {x1 x2 : Int} (h2 : -2147483648 ≤ x2 ∧ x2 ≤ 2147483647) (hr : 0 ≤ x1 ∧ x1 ≤ 5) {n : Nat} (hk : σ.2.1 125 0 = (n : Int)) : ∀ (m p : Nat), p + m = n → WP X (d + 1) (0, 0) MX11_judge 36 [(0, vP (some 125)), (1, vI x1), (2, vI x2), (3, vI (p : Int))] [] σ (fun v' σ2 => v' = some (vI (if σ.2.1 155 x1.toNat = -1 ∧ 0 < m then 100 + p else judS (σ.2.1 156 x1.toNat) x2 (fun j => σ.2.2.1 157 (60 * x1.toNat + j)) (fun q => σ.2.1 128 q) m p)) ∧ Inv σ2) := by
  have hs := hi.1
  have hn := hi.now
  obtain ⟨g1, g2, ⟨g3, g4⟩, g5⟩ := hi.2.2.2.2.2.1 x1.toNat (by omega)
  intro m
  induction m with
  | zero =>
    intro p hp
    exact C_X11_judge_36 hs ⟨by omega, fun _ => ⟨by rw [if_neg (by omega)]; rfl, hi⟩, fun h => absurd h (by omega)⟩
  | succ m ih =>
    intro p hp
    have e : (fun (v' : Option mV) (σ2 : mS) => v' = some (vI (if σ.2.1 155 x1.toNat = -1 ∧ 0 < m + 1 then 100 + (p : Int) else judS (σ.2.1 156 x1.toNat) x2 (fun j => σ.2.2.1 157 (60 * x1.toNat + j)) (fun q => σ.2.1 128 q) (m + 1) p)) ∧ Inv σ2) = _ := rfl
    refine C_X11_judge_36 hs ⟨by omega, fun h => absurd h (by omega), fun _ => ⟨by omega, by omega, fun h => ⟨by rw [if_pos (by omega)], hi⟩, fun h => ⟨h2, fun h3 => ⟨?_, hi⟩, fun h3 => ⟨by omega, fun h4 => ⟨by omega, ?_, by omega, by omega, fun h5 => ?_, fun h5 => ⟨?_, hi⟩⟩, fun h4 => ⟨?_, hi⟩⟩⟩⟩⟩
    · rw [if_neg (by omega)]
      simp only [judS]
      rw [if_pos (by omega)]
    · have := jcmp_lt.mp h4
      omega
    · have h4 := jcmp_lt.mp h4
      have h5 := jcmp_eq.mp h5
      rw [show (60 * x1 + x2 + (p : Int)).toNat = 60 * x1.toNat + (x2.toNat + p) by omega, show ((p : Int)).toNat = p by omega] at h5
      rw [show (p : Int) + 1 = ((p + 1 : Nat) : Int) by omega, if_neg (by omega)]
      have := ih (p + 1) (by omega)
      rw [if_neg (by omega)] at this
      simp only [judS]
      rw [if_neg (by omega), if_pos h5]
      exact this
    · have h4 := jcmp_lt.mp h4
      have h5 : ¬ _ = _ := fun q => h5 (jcmp_eq.mpr q)
      rw [show (60 * x1 + x2 + (p : Int)).toNat = 60 * x1.toNat + (x2.toNat + p) by omega, show ((p : Int)).toNat = p by omega] at h5
      rw [if_neg (by omega)]
      simp only [judS]
      rw [if_neg (by omega), if_neg h5]
    · have h4 : ¬ _ < _ := fun q => h4 (jcmp_lt.mpr q)
      rw [if_neg (by omega)]
      simp only [judS]
      rw [if_pos (by omega)]
end JUDGE
