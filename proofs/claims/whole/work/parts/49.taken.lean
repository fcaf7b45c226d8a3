/-! taken -/
section TAKEN
variable {X : mX} {d : Nat} {σ : mS} {Q : Option mV → mS → Prop}
def und : Nat → Int → Int → Bool
  | 0, _, _ => false
  | m + 1, one, k => if one < 0 then false else if one = k then true else und m (tabA.getD one.toNat 0) k
def abv (x : Int) : Int := if x = 4 then 1 else if x = 5 then 2 else if x = 6 then 3 else 0
def mund : Nat → Int → Int → Bool
  | 0, _, _ => false
  | m + 1, up, k => if up = k then true else if up ≤ 0 then false else mund m (abv up) k
theorem und_mund : ∀ a : Nat, a < 7 → ∀ b : Nat, b < 7 → und 7 (a : Int) (b : Int) = mund 7 (a : Int) (b : Int) := by decide +kernel
theorem c_isUnder (hs : Sh σ) {one k : Int} (ho : 0 ≤ one ∧ one ≤ 6) (hk : -2147483648 ≤ k ∧ k ≤ 2147483647) (hQ : Q (some (vI (bB (und 7 one k)))) σ) : CALL X (d + 1) (0, 0) MX0_isUnder [vI one, vI k] σ Q := by
  have key : ∀ (m i : Nat) (one : Int), i + m = 7 → -1 ≤ one ∧ one ≤ 6 → Q (some (vI (bB (und m one k)))) σ → WP X (d + 1) (0, 0) MX0_isUnder 4 [(1, vI k), (2, vI one), (3, vI (i : Int))] [] σ Q := by
    intro m
    induction m with
    | zero =>
      intro i one hi ho hq
      exact C_X0_isUnder_4 hs ⟨by omega, fun _ => hq, fun h => absurd h (by omega)⟩
    | succ m ih =>
      intro i one hi ho hq
      simp only [und] at hq
      refine C_X0_isUnder_4 hs ⟨by omega, fun h => absurd h (by omega), fun _ => ⟨by omega, fun h => ?_, fun h => ⟨hk, fun h2 => c_above hs (by omega) ⟨_, rfl, hs, ?_⟩, fun h2 => ?_⟩⟩⟩
      · rw [if_pos h] at hq; exact hq
      · rw [if_neg h, if_neg h2] at hq
        rw [show (i : Int) + 1 = ((i + 1 : Nat) : Int) by omega]
        exact ih (i + 1) _ (by omega) (tabA_k _ (by omega)) hq
      · rw [if_neg h, if_pos h2] at hq; exact hq
  exact C_X0_isUnder hs (key 7 0 one (by omega) (by omega) hQ)
theorem m_taken (hs : Sh σ) {x1 x2 : Int} (h1 : 0 ≤ x1 ∧ x1 ≤ 5) (h2 : -2147483648 ≤ x2 ∧ x2 ≤ 2147483647) : ∀ (m : Nat) (up : Int), m ≤ 7 → 0 ≤ up ∧ up < m → (mund m up x2 = true → Q (some (vI (σ.2.1 126 x1.toNat))) σ) → (mund m up x2 = false → Q (some (vI (-12))) σ) → WP X (d + 1) (0, 0) MX11_taken 31 [(0, vP (some 125)), (1, vI x1), (2, vI x2), (3, vI up)] [] σ Q := by
  intro m
  induction m with
  | zero => intro up h7 h; omega
  | succ m ih =>
    intro up h7 h qt qf
    simp only [mund] at qt qf
    refine C_X11_taken_31 hs ⟨by omega, h2, fun h3 => ⟨by omega, by omega, qt (by rw [if_pos h3])⟩, fun h3 => ⟨fun h4 => qf (by rw [if_neg h3, if_pos h4]), fun h4 => m_above hs (by omega) ⟨_, rfl, hs, ?_⟩⟩⟩
    rw [if_neg h3, if_neg h4] at qt qf
    refine ih (abv up) (by omega) ?_ qt qf
    unfold abv
    repeat' split
    all_goals omega
theorem op_taken (hi : Inv σ) {x1 x2 : Int} (h1 : -2147483648 ≤ x1 ∧ x1 ≤ 2147483647) (h2 : -2147483648 ≤ x2 ∧ x2 ≤ 2147483647) : BothI X (d + 3) MX10_taken MX11_taken [vI x1, vI x2] σ Inv := by
  have hs := hi.1
  have hn := hi.now
  refine C_X10_taken hs (c_isKind hs h2 ⟨_, rfl, hs, fun h => ⟨_, rfl, hs, by decide, ?_⟩, fun h => c_guardAt hs (Or.inl rfl) h1 (by omega) ⟨_, rfl, hs, fun h3 => ⟨_, rfl, hs, by decide, ?_⟩, fun a ha => ?_⟩⟩)
  · have h := of_decide_eq_false h
    exact C_X11_taken hs (c_within hs h2 (by decide) (by decide) ⟨_, rfl, hs, fun _ => ⟨rfl, hi⟩, fun h' => absurd (of_decide_eq_true h') h⟩)
  · have h3 := gAt_none h3
    have h := of_decide_eq_true h
    refine C_X11_taken hs (c_within hs h2 (by decide) (by decide) ⟨_, rfl, hs, fun h' => absurd h (of_decide_eq_false h'), fun _ => c_isOne hs h1 (by omega) ⟨_, rfl, hs, fun _ => ⟨rfl, hi⟩, fun h' => ?_⟩⟩)
    have h' := of_decide_eq_true h'
    omega
  · obtain ⟨hg, hr, rfl⟩ := gAt_some (Or.inl rfl) ha (by omega)
    have h := of_decide_eq_true h
    have g := hi.g (p := x1.toNat) (by omega)
    have gr := (hi.gr (p := x1.toNat) (by omega)).1
    have e := und_mund (σ.2.1 126 x1.toNat).toNat (by omega) x2.toNat (by omega)
    rw [show (((σ.2.1 126 x1.toNat).toNat : Nat) : Int) = σ.2.1 126 x1.toNat by omega, show ((x2.toNat : Nat) : Int) = x2 by omega] at e
    have e10 : 1 + 9 + 3 * x1.toNat = 10 + 3 * x1.toNat := by omega
    rw [e10] at hg
    rw [e10, g.1]
    have mm : ∀ z : Int, (mund 7 (σ.2.1 126 x1.toNat) x2 = true → z = σ.2.1 126 x1.toNat) → (mund 7 (σ.2.1 126 x1.toNat) x2 = false → z = -12) → CALL X (d + 3) (0, 0) MX11_taken [vP (some 125), vI x1, vI x2] σ (fun v' σ2 => v' = some (vI z) ∧ Inv σ2) := by
      intro z z1 z2
      refine C_X11_taken hs (c_within hs h2 (by decide) (by decide) ⟨_, rfl, hs, fun h' => absurd h (of_decide_eq_false h'), fun _ => c_isOne hs h1 (by omega) ⟨_, rfl, hs, fun h' => ?_, fun _ => ⟨by omega, by omega, m_taken hs (by omega) h2 7 _ (by decide) (by omega) (fun h' => ⟨by rw [z1 h'], hi⟩) (fun h' => ⟨by rw [z2 h'], hi⟩)⟩⟩⟩)
      have h' := of_decide_eq_false h'
      omega
    refine ⟨hg, c_isUnder hs gr h2 ⟨_, rfl, hs, fun h' => ⟨_, rfl, hs, by decide, mm _ (fun q => ?_) (fun _ => rfl)⟩, fun h' => ⟨_, rfl, hs, hs.2.2.1 _ _, mm _ (fun _ => g.1) (fun q => ?_)⟩⟩⟩
    · rw [e, q] at h'; cases h'
    · rw [e, q] at h'; cases h'
end TAKEN
