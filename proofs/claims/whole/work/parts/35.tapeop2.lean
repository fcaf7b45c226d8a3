/-! item, read, shift -/
section TAPEOPB
variable {X : mX} {d : Nat} {σ : mS} {Q : Option mV → mS → Prop}
theorem op_item (hs : Sh σ) (hE : InvE σ) {x1 x2 x3 : Int} (h1 : -2147483648 ≤ x1 ∧ x1 ≤ 2147483647) (h2 : -2147483648 ≤ x2 ∧ x2 ≤ 2147483647) (h3 : -9223372036854775808 ≤ x3 ∧ x3 ≤ 9223372036854775807) : BothI X (d + 2) MX10_item MX11_item [vI x1, vI x2, vL x3] σ (fun σ2 => Ag DE σ σ2 ∧ InvE σ2) := by
  have mno : ¬ (0 ≤ x1 ∧ x1 ≤ 5) → CALL X (d + 2) (0, 0) MX11_item [vP (some 125), vI x1, vI x2, vL x3] σ (fun v' σ2 => v' = some (vI (-1)) ∧ Ag DE σ σ2 ∧ InvE σ2) := fun hn =>
    C_X11_item hs (c_isTape hs h1 ⟨_, rfl, hs, fun _ => ⟨rfl, Ag.rf hs, hE⟩, fun h => absurd (by simpa using h) hn⟩)
  refine C_X10_item hs (c_tapeAt hs h1 ⟨_, rfl, hs, fun hn => ⟨_, rfl, hs, by decide, mno (tAt_none hn)⟩, fun a ha => ?_⟩)
  obtain ⟨hT, hr, rfl⟩ := tAt_some ha
  obtain ⟨g1, g2, ⟨g3, g4⟩, g5⟩ := hE x1.toNat (by omega)
  refine ⟨hT, c_holdsT hs hT ⟨_, rfl, hs, fun h => ⟨_, rfl, hs, by decide, ?_⟩, fun h => ?_⟩⟩
  · rw [decide_eq_false_iff_not] at h
    exact C_X11_item hs (c_isTape hs h1 ⟨_, rfl, hs, fun h5 => absurd hr (by simpa using h5), fun _ => ⟨by omega, by omega, fun _ => by omega, fun _ => ⟨rfl, Ag.rf hs, hE⟩⟩⟩)
  rw [decide_eq_true_eq] at h
  refine c_hasPlace hs hT h2 ⟨_, rfl, hs, fun h6 => ⟨_, rfl, hs, by decide, ?_⟩, fun h6 => ?_⟩
  · rw [decide_eq_false_iff_not] at h6
    refine C_X11_item hs (c_isTape hs h1 ⟨_, rfl, hs, fun h5 => absurd hr (by simpa using h5), fun _ => ⟨by omega, by omega, fun _ => c_within hs h2 (by decide) (by omega) ⟨_, rfl, hs, fun _ => ⟨rfl, Ag.rf hs, hE⟩, fun h7 => ?_⟩, fun _ => by omega⟩⟩)
    rw [decide_eq_true_eq] at h7
    omega
  rw [decide_eq_true_eq] at h6
  have hs1 : Sh (sL σ (113 + 2 * x1.toNat + 1) x2.toNat (cutL (σ.2.1 (113 + 2 * x1.toNat) 1) x3)) := sh_L hs (cutL_r _ h3)
  have hs2 := hs1
  refine c_put hs hT h6 (by omega) h3 ⟨rfl, hs1, _, rfl, hs1, by decide, ?_⟩
  revert hs1 hs2
  generalize hw : cutL (σ.2.1 (113 + 2 * x1.toNat) 1) x3 = w
  intro hs1 hs2
  refine C_X11_item hs1 (c_isTape hs1 h1 ⟨_, rfl, hs1, fun h5 => absurd hr (by simpa using h5), fun _ => ⟨by omega, by omega, fun _ => c_within hs1 h2 (by decide) ?_ ⟨_, rfl, hs1, fun h7 => ?_, fun h7 => c_kept hs1 ?_ h3 ⟨_, rfl, hs1, by omega, ?_, cutL_r _ h3, rfl, ?_, ?_⟩⟩, fun h7 => ?_⟩⟩)
  · rw [sL_i]; omega
  · rw [decide_eq_false_iff_not, sL_i] at h7
    omega
  · rw [sL_i]; omega
  · omega
  · refine ((Ag.rf hs).sL hs1 ?_).sL (sh_L hs1 (cutL_r _ h3)) ?_ <;> unfold DE <;> omega
  · intro t ht
    obtain ⟨k1, k2, ⟨k3, k4⟩, k5⟩ := hE t ht
    simp only [sL_i]
    refine ⟨k1, k2, ⟨k3, k4⟩, fun i hi => ?_⟩
    simp only [sL_at, true_and]
    repeat' split
    all_goals first | (exfalso; omega) | exact k5 i hi | rw [← hw, g3]
  · rw [sL_i] at h7
    omega
theorem op_read (hs : Sh σ) (hE : InvE σ) {x1 x2 : Int} (h1 : -2147483648 ≤ x1 ∧ x1 ≤ 2147483647) (h2 : -2147483648 ≤ x2 ∧ x2 ≤ 2147483647) : BothL X (d + 2) MX10_read MX11_read [vI x1, vI x2] σ (fun σ2 => σ2 = σ) := by
  have mno : ¬ (0 ≤ x1 ∧ x1 ≤ 5) → CALL X (d + 2) (0, 0) MX11_read [vP (some 125), vI x1, vI x2] σ (fun v' σ2 => v' = some (vL (-9223372036854775808)) ∧ σ2 = σ) := fun hn =>
    C_X11_read hs (c_isTape hs h1 ⟨_, rfl, hs, fun _ => ⟨rfl, rfl⟩, fun h => absurd (by simpa using h) hn⟩)
  refine C_X10_read hs (c_tapeAt hs h1 ⟨_, rfl, hs, fun hn => ⟨_, rfl, hs, by decide, mno (tAt_none hn)⟩, fun a ha => ?_⟩)
  obtain ⟨hT, hr, rfl⟩ := tAt_some ha
  obtain ⟨g1, g2, ⟨g3, g4⟩, g5⟩ := hE x1.toNat (by omega)
  refine ⟨hT, c_holdsT hs hT ⟨_, rfl, hs, fun h => ⟨_, rfl, hs, by decide, ?_⟩, fun h => ?_⟩⟩
  · rw [decide_eq_false_iff_not] at h
    exact C_X11_read hs (c_isTape hs h1 ⟨_, rfl, hs, fun h5 => absurd hr (by simpa using h5), fun _ => ⟨by omega, by omega, fun _ => ⟨rfl, rfl⟩, fun _ => by omega⟩⟩)
  rw [decide_eq_true_eq] at h
  refine c_hasPlace hs hT h2 ⟨_, rfl, hs, fun h6 => ⟨_, rfl, hs, by decide, ?_⟩, fun h6 => ?_⟩
  · rw [decide_eq_false_iff_not] at h6
    refine C_X11_read hs (c_isTape hs h1 ⟨_, rfl, hs, fun h5 => absurd hr (by simpa using h5), fun _ => ⟨by omega, by omega, fun _ => by omega, fun _ => c_within hs h2 (by decide) (by omega) ⟨_, rfl, hs, fun _ => ⟨rfl, rfl⟩, fun h7 => ?_⟩⟩⟩)
    rw [decide_eq_true_eq] at h7
    omega
  rw [decide_eq_true_eq] at h6
  refine c_get hs hT h6 (by omega) ⟨_, rfl, hs, _, rfl, hs, hs.2.2.2.1 _ _, ?_⟩
  refine C_X11_read hs (c_isTape hs h1 ⟨_, rfl, hs, fun h5 => absurd hr (by simpa using h5), fun _ => ⟨by omega, by omega, fun _ => by omega, fun _ => c_within hs h2 (by decide) (by omega) ⟨_, rfl, hs, fun h7 => ?_, fun h7 => ⟨by omega, by omega, ?_, rfl⟩⟩⟩⟩)
  · rw [decide_eq_false_iff_not] at h7
    omega
  · rw [g5 x2.toNat (by omega), show (60 * x1 + x2).toNat = 60 * x1.toNat + x2.toNat by omega]
end TAPEOPB
