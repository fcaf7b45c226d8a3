/-! looked, taken -/
section LOOK
variable {X : mX} {d : Nat} {σ : mS} {Q : Option mV → mS → Prop}
theorem c_cell (hs : Sh σ) {r : Nat} (hr : isR r) {i c : Int} (hi : 0 ≤ i ∧ i < σ.2.1 r 2) (hc : 0 ≤ c ∧ c ≤ 2) (hm : σ.2.1 r 2 ≤ rM r) (hQ : Q (some (vI (σ.2.1 (r + 1) (3 * i.toNat + c.toNat)))) σ) : CALL X d (0, 0) MX6_cell [vP (some r), vI i, vI c] σ Q := by
  have hM := rM_le r
  refine C_X6_cell hs hr ⟨by omega, fun h => by omega, fun _ => ⟨fun _ => ⟨by omega, by omega, ?_⟩, fun h => by omega⟩⟩
  rw [show (i * 3 + c).toNat = 3 * i.toNat + c.toNat by omega]
  exact hQ
theorem op_looked (hi : Inv σ) : BothI X (d + 2) MX10_looked MX11_looked [] σ Inv := by
  have hs := hi.1
  have hn := hi.now
  obtain ⟨b1, b2, b3, b4, b5, b6, b7, b8, b9, ⟨b10, b11⟩⟩ := hi.2.1.2.1
  have hc : σ.2.1 8 2 = σ.2.1 125 35 := hi.2.1.1.2.2.2.2.2.1
  have hrow : ∀ i, i < 8 → σ.2.1 9 (3 * i) = σ.2.1 148 i ∧ σ.2.1 9 (3 * i + 1) = σ.2.1 149 i := hi.2.1.1.2.2.2.2.2.2
  obtain ⟨n, hk⟩ : ∃ n : Nat, σ.2.1 125 35 = (n : Int) := ⟨(σ.2.1 125 35).toNat, by omega⟩
  -- the reference from the i-th row on answers z, if no row ahead of it differs
  have mm : ∀ z : Int, (∀ (m i : Nat), i + m = n → (∀ j : Nat, i ≤ j → j < n → (∀ j' : Nat, i ≤ j' → j' < j → σ.2.1 132 (σ.2.1 148 j').toNat = σ.2.1 149 j') → σ.2.1 132 (σ.2.1 148 j).toNat ≠ σ.2.1 149 j → z = (j : Int)) → ((∀ j : Nat, i ≤ j → j < n → σ.2.1 132 (σ.2.1 148 j).toNat = σ.2.1 149 j) → z = -5) → WP X (d + 2) (0, 0) MX11_looked 2 [(0, vP (some 125)), (1, vI (i : Int))] [] σ (fun v' σ2 => v' = some (vI z) ∧ Inv σ2)) := by
    intro z m
    induction m with
    | zero =>
      intro i him h1 h2
      exact C_X11_looked_2 hs ⟨by omega, fun _ => ⟨by rw [h2 (fun j _ _ => by omega)], hi⟩, fun h => absurd h (by omega)⟩
    | succ m ih =>
      intro i him h1 h2
      have k := b11 i (by omega)
      refine C_X11_looked_2 hs ⟨by omega, fun h => absurd h (by omega), fun _ => ⟨by omega, by omega, ?_⟩⟩
      rw [show ((i : Int)).toNat = i by omega]
      refine ⟨by omega, by omega, fun h => ?_, fun h => ⟨by rw [h1 i (by omega) (by omega) (fun _ _ _ => by omega) h], hi⟩⟩
      rw [show (i : Int) + 1 = ((i + 1 : Nat) : Int) by omega]
      refine ih (i + 1) (by omega) (fun j q1 q2 q3 q4 => h1 j (by omega) q2 (fun j' q5 q6 => ?_) q4) (fun q => h2 (fun j q1 q2 => ?_))
      · by_cases hz : j' = i
        · rw [hz]; exact h
        · exact q3 j' (by omega) q6
      · by_cases hz : j = i
        · rw [hz]; exact h
        · exact q j (by omega) q2
  have key : ∀ (m i : Nat), i + m = n → (∀ j : Nat, j < i → σ.2.1 132 (σ.2.1 148 j).toNat = σ.2.1 149 j) → WP X (d + 2) (0, 0) MX10_looked 2 [(0, vP (some 0)), (1, vI (i : Int))] [] σ (fun v σ1 => ∃ z : Int, v = some (vI z) ∧ Sh σ1 ∧ (-2147483648 ≤ z ∧ z ≤ 2147483647) ∧ CALL X (d + 2) (0, 0) MX11_looked (vP (some 125) :: []) σ1 (fun v' σ2 => v' = some (vI z) ∧ Inv σ2)) := by
    intro m
    induction m with
    | zero =>
      intro i him hall
      refine C_X10_looked_2 hs ⟨by omega, fun _ => ⟨_, rfl, hs, by decide, C_X11_looked hs (mm (-5) n 0 (by omega) (fun j _ q2 _ q4 => absurd (hall j (by omega)) q4) (fun _ => rfl))⟩, fun h => absurd h (by omega)⟩
    | succ m ih =>
      intro i him hall
      have k := b11 i (by omega)
      have r := hrow i (by omega)
      have hR : isR 8 := isR4 (y := 1) (Or.inl rfl)
      refine C_X10_looked_2 hs ⟨by omega, fun h => absurd h (by omega), fun _ => C_X6_first hs hR (c_cell hs hR (by omega) (by decide) (show σ.2.1 8 2 ≤ 8 by omega) ⟨_, rfl, hs, _, rfl, hs, ?_⟩)⟩
      rw [show 3 * ((i : Int)).toNat + ((0 : Int)).toNat = 3 * i by omega, r.1]
      refine c_questionAt hs (Or.inl rfl) (by omega) (by omega) ⟨_, rfl, hs, fun h => absurd (show 0 ≤ σ.2.1 148 i ∧ σ.2.1 148 i < σ.2.1 1 6 by omega) (qAt_none h), fun a ha => ?_⟩
      obtain ⟨hq, hr, rfl⟩ := qAt_some (Or.inl rfl) ha (by omega)
      have g := hi.q (q := (σ.2.1 148 i).toNat) (by omega)
      refine ⟨hq, C_X6_second hs hR (c_cell hs hR (by omega) (by decide) (show σ.2.1 8 2 ≤ 8 by omega) ⟨_, rfl, hs, _, rfl, hs, hs.2.2.1 _ _, ?_⟩)⟩
      rw [show 3 * ((i : Int)).toNat + ((1 : Int)).toNat = 3 * i + 1 by omega, r.2, show 1 + 11 + 3 * (σ.2.1 148 i).toNat = 12 + 3 * (σ.2.1 148 i).toNat by omega, g.2.1]
      refine ⟨fun h => ?_, fun h => ⟨_, rfl, hs, by omega, C_X11_looked hs (mm (i : Int) n 0 (by omega) (fun j _ q2 q3 q4 => ?_) (fun q => absurd (q i (by omega) (by omega)) h))⟩⟩
      · rw [show (i : Int) + 1 = ((i + 1 : Nat) : Int) by omega]
        refine ih (i + 1) (by omega) (fun j q => ?_)
        by_cases hz : j = i
        · rw [hz]; exact h
        · exact hall j (by omega)
      · by_cases hz : j < i
        · exact absurd (hall j hz) q4
        · by_cases hz2 : j = i
          · rw [hz2]
          · exact absurd (q3 i (by omega) (by omega)) h
  exact C_X10_looked hs (key n 0 (by omega) (fun j q => by omega))
end LOOK
