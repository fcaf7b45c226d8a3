/-! judge -/
section JUDGEB
variable {X : mX} {d : Nat} {σ : mS} {Q : Option mV → mS → Prop}
theorem x_judgeL (hi : Inv σ) {x1 x2 : Int} (h2 : -2147483648 ≤ x2 ∧ x2 ≤ 2147483647) (hr : 0 ≤ x1 ∧ x1 ≤ 5) {n : Nat} (hk : σ.2.1 125 0 = (n : Int)) (N : Int) (hN : N = judS (σ.2.1 156 x1.toNat) x2 (fun j => σ.2.2.1 157 (60 * x1.toNat + j)) (fun q => σ.2.1 128 q) n 0) (hQ : Q (some (vI N)) σ) : WP X (d + 2) (0, 0) MX10_judge 33 [(0, vP (some 0)), (2, vI x2), (3, vP (some (113 + 2 * x1.toNat))), (4, vI 0)] [] σ Q := by
  have hs := hi.1
  have hn := hi.now
  obtain ⟨g1, g2, ⟨g3, g4⟩, g5⟩ := hi.2.2.2.2.2.1 x1.toNat (by omega)
  have hT : isT (113 + 2 * x1.toNat) := isT_of (by omega) (by omega)
  have key : ∀ (m p : Nat), p + m = n → N = judS (σ.2.1 156 x1.toNat) x2 (fun j => σ.2.2.1 157 (60 * x1.toNat + j)) (fun q => σ.2.1 128 q) m p → WP X (d + 2) (0, 0) MX10_judge 33 [(0, vP (some 0)), (2, vI x2), (3, vP (some (113 + 2 * x1.toNat))), (4, vI (p : Int))] [] σ Q := by
    intro m
    induction m with
    | zero =>
      intro p hp e
      exact C_X10_judge_33 hs hT ⟨by omega, fun _ => by rw [e] at hQ; exact hQ, fun h => absurd h (by omega)⟩
    | succ m ih =>
      intro p hp e
      simp only [judS] at e
      refine C_X10_judge_33 hs hT ⟨by omega, fun h => absurd h (by omega), fun _ => c_guardAt hs (Or.inl rfl) (by omega) (by omega) ⟨_, rfl, hs, fun h => absurd (show 0 ≤ (p : Int) ∧ (p : Int) < σ.2.1 1 5 by omega) (gAt_none h), fun a ha => ?_⟩⟩
      obtain ⟨hg, hr3, rfl⟩ := gAt_some (Or.inl rfl) ha (by omega)
      have g := hi.g (p := p) (by omega)
      have e10 : 1 + 9 + 3 * ((p : Int)).toNat = 10 + 3 * p := by omega
      rw [e10] at hg
      rw [e10]
      refine ⟨hg, h2, fun h3 => ?_, fun h3 => ⟨by omega, fun h4 => c_get hs hT (by omega) (by omega) ⟨_, rfl, hs, hs.2.2.2.1 _ _, fun h5 => ?_, fun h5 => ?_⟩, fun h4 => ?_⟩⟩
      · rw [if_pos (Or.inl h3)] at e
        rw [e] at hQ; exact hQ
      · have h5 := jcmp_eq.mp h5
        rw [g5 _ (by omega), show (x2 + (p : Int)).toNat = x2.toNat + p by omega, g.2.2.1] at h5
        rw [if_neg (by omega), if_pos h5] at e
        rw [show (p : Int) + 1 = ((p + 1 : Nat) : Int) by omega]
        exact ih (p + 1) (by omega) e
      · have h5 : ¬ _ = _ := fun q => h5 (jcmp_eq.mpr q)
        rw [g5 _ (by omega), show (x2 + (p : Int)).toNat = x2.toNat + p by omega, g.2.2.1] at h5
        rw [if_neg (by omega), if_neg h5] at e
        rw [e] at hQ; exact hQ
      · rw [if_pos (by omega)] at e
        rw [e] at hQ; exact hQ
  exact key n 0 (by omega) hN
end JUDGEB
