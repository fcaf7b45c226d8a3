/-! judge, both -/
section JUDGEC
variable {X : mX} {d : Nat} {σ : mS} {Q : Option mV → mS → Prop}
theorem op_judge (hi : Inv σ) {x1 x2 : Int} (h1 : -2147483648 ≤ x1 ∧ x1 ≤ 2147483647) (h2 : -2147483648 ≤ x2 ∧ x2 ≤ 2147483647) : BothI X (d + 3) MX10_judge MX11_judge [vI x1, vI x2] σ Inv := by
  have hs := hi.1
  have hn := hi.now
  have mno : ¬ (0 ≤ x1 ∧ x1 ≤ 5) → CALL X (d + 3) (0, 0) MX11_judge [vP (some 125), vI x1, vI x2] σ (fun v' σ2 => v' = some (vI (-1)) ∧ Inv σ2) := fun h =>
    C_X11_judge hs (c_within hs h1 (by decide) (by decide) ⟨_, rfl, hs, fun _ => ⟨rfl, hi⟩, fun h' => absurd (of_decide_eq_true h') h⟩)
  refine C_X10_judge hs (c_tapeAt hs h1 ⟨_, rfl, hs, fun hn => ⟨_, rfl, hs, by decide, mno (tAt_none hn)⟩, fun a ha => ?_⟩)
  obtain ⟨hT, hr, rfl⟩ := tAt_some ha
  obtain ⟨g1, g2, ⟨g3, g4⟩, g5⟩ := hi.2.2.2.2.2.1 x1.toNat (by omega)
  obtain ⟨n, hk⟩ : ∃ n : Nat, σ.2.1 125 0 = (n : Int) := ⟨(σ.2.1 125 0).toNat, by omega⟩
  have hjr := judS_r (σ.2.1 156 x1.toNat) x2 (fun j => σ.2.2.1 157 (60 * x1.toNat + j)) (fun q => σ.2.1 128 q) n 0 (by omega)
  have mm : σ.2.1 155 x1.toNat = -1 ∨ σ.2.1 155 x1.toNat = 1 → CALL X (d + 3) (0, 0) MX11_judge [vP (some 125), vI x1, vI x2] σ (fun v' σ2 => v' = some (vI (judS (σ.2.1 156 x1.toNat) x2 (fun j => σ.2.2.1 157 (60 * x1.toNat + j)) (fun q => σ.2.1 128 q) n 0)) ∧ Inv σ2) := by
    intro hso
    have wp : WP X (d + 3) (0, 0) MX11_judge 36 [(0, vP (some 125)), (1, vI x1), (2, vI x2), (3, vI 0)] [] σ (fun v' σ2 => v' = some (vI (judS (σ.2.1 156 x1.toNat) x2 (fun j => σ.2.2.1 157 (60 * x1.toNat + j)) (fun q => σ.2.1 128 q) n 0)) ∧ Inv σ2) := by
      refine WP.mono (m_judgeL hi h2 hr hk n 0 (by omega)) (fun v σ' ⟨e, h⟩ => ⟨?_, h⟩)
      rw [e]
      split
      · next hc =>
        obtain ⟨m, rfl⟩ : ∃ m, n = m + 1 := ⟨n - 1, by omega⟩
        simp only [judS]
        rw [if_pos (by omega)]
      · rfl
    exact C_X11_judge hs (c_within hs h1 (by decide) (by decide) ⟨_, rfl, hs, fun h' => absurd hr (of_decide_eq_false h'), fun _ => ⟨by omega, by omega, fun _ => wp, fun _ => ⟨fun _ => wp, fun h5 => by omega⟩⟩⟩)
  refine ⟨hT, c_holdsT hs hT ⟨_, rfl, hs, fun h => ?_, fun h => ⟨fun h5 => ?_, fun h5 => ⟨_, rfl, hs, by decide, ?_⟩⟩⟩⟩
  · have h := of_decide_eq_false h
    exact x_judgeL hi h2 hr hk _ rfl ⟨_, rfl, hs, by omega, mm (by omega)⟩
  · exact x_judgeL hi h2 hr hk _ rfl ⟨_, rfl, hs, by omega, mm (by omega)⟩
  · have h := of_decide_eq_true h
    exact C_X11_judge hs (c_within hs h1 (by decide) (by decide) ⟨_, rfl, hs, fun h' => absurd hr (of_decide_eq_false h'), fun _ => ⟨by omega, by omega, fun _ => by omega, fun _ => ⟨fun _ => by omega, fun _ => ⟨rfl, hi⟩⟩⟩⟩)
end JUDGEC
