/-! guard -/
section GUARDOPB
variable {X : mX} {d : Nat} {σ : mS} {Q : Option mV → mS → Prop} {y : Nat} {Y Z : mY} {B : List mCl}
theorem op_guard (hi : Inv σ) {x1 x2 x3 : Int} (h1 : -2147483648 ≤ x1 ∧ x1 ≤ 2147483647) (h2 : -2147483648 ≤ x2 ∧ x2 ≤ 2147483647) (h3 : -2147483648 ≤ x3 ∧ x3 ≤ 2147483647) : BothI X (d + 3) MX10_guard MX11_guard [vI x1, vI x2, vI x3] σ Inv := by
  have hs := hi.1
  have hn := hi.now
  obtain ⟨G, hG⟩ : ∃ n : Nat, σ.2.1 125 0 = (n : Int) := ⟨(σ.2.1 125 0).toNat, by omega⟩
  -- the reference's answers where nothing is written
  have mm : ∀ z : Int, (¬ (0 ≤ x1 ∧ x1 ≤ 6) → z = -1) → (0 ≤ x1 ∧ x1 ≤ 6 → ¬ (0 ≤ x2 ∧ x2 ≤ 9) ∨ ¬ (0 ≤ x3 ∧ x3 ≤ 4095) → z = -2) → (0 ≤ x1 ∧ x1 ≤ 6 → 0 ≤ x2 ∧ x2 ≤ 9 → 0 ≤ x3 ∧ x3 ≤ 4095 → G = 6 ∧ z = -4) → CALL X (d + 3) (0, 0) MX11_guard [vP (some 125), vI x1, vI x2, vI x3] σ (fun v' σ2 => v' = some (vI z) ∧ Inv σ2) := by
    intro z k1 k2 k3
    refine C_X11_guard hs (c_within hs h1 (by decide) (by decide) ⟨_, rfl, hs, fun g1 => ?_, fun g1 => c_within hs h2 (by decide) (by decide) ⟨_, rfl, hs, fun g2 => ?_, fun g2 => c_areMatters hs h3 ⟨_, rfl, hs, fun g3 => ?_, fun g3 => ?_⟩⟩⟩)
    · rw [k1 (of_decide_eq_false g1)]
      exact ⟨rfl, hi⟩
    · rw [k2 (of_decide_eq_true g1) (Or.inl (of_decide_eq_false g2))]
      exact ⟨rfl, hi⟩
    · rw [k2 (of_decide_eq_true g1) (Or.inr (of_decide_eq_false g3))]
      exact ⟨rfl, hi⟩
    · have := k3 (of_decide_eq_true g1) (of_decide_eq_true g2) (of_decide_eq_true g3)
      refine ⟨fun h => absurd (show σ.2.1 125 0 = 6 by omega) h, fun _ => ?_⟩
      rw [this.2]
      exact ⟨rfl, hi⟩
  refine C_X10_guard hs (c_isKind hs h1 ⟨_, rfl, hs, fun g1 => ⟨_, rfl, hs, by decide, mm _ (fun _ => rfl) (fun h => absurd h (of_decide_eq_false g1)) (fun h => absurd h (of_decide_eq_false g1))⟩, fun g1 => c_isDigit hs h2 ⟨_, rfl, hs, fun g2 => ⟨_, rfl, hs, by decide, mm _ (fun h => absurd (of_decide_eq_true g1) h) (fun _ _ => rfl) (fun _ h => absurd h (of_decide_eq_false g2))⟩, fun g2 => c_isSet hs h3 ⟨_, rfl, hs, fun g3 => ⟨_, rfl, hs, by decide, mm _ (fun h => absurd (of_decide_eq_true g1) h) (fun _ _ => rfl) (fun _ _ h => absurd h (of_decide_eq_false g3))⟩, fun g3 => ?_⟩⟩⟩)
  have g1 := of_decide_eq_true g1
  have g2 := of_decide_eq_true g2
  have g3 := of_decide_eq_true g3
  refine c_addGuard hs (G := G) (by omega) (by omega) h1 h2 h3 (fun h6 => ⟨_, rfl, hs, _, rfl, hs, by decide, mm _ (by omega) (fun _ h => by omega) (fun _ _ _ => ⟨h6, rfl⟩)⟩) (fun hG5 σ1 hA hv => ⟨_, rfl, hA.1, _, rfl, hA.1, by omega, ?_⟩)
  have nA : ∀ a k, 125 ≤ a → σ1.2.1 a k = σ.2.1 a k := fun a k ha => hA.2.2 a k (fun q => by have := DPx_27 q; omega)
  have hs1 := hA.1
  refine C_X11_guard hs1 (c_within hs1 h1 (by decide) (by decide) ⟨_, rfl, hs1, fun k => absurd g1 (of_decide_eq_false k), fun _ => c_within hs1 h2 (by decide) (by decide) ⟨_, rfl, hs1, fun k => absurd g2 (of_decide_eq_false k), fun _ => c_areMatters hs1 h3 ⟨_, rfl, hs1, fun k => absurd g3 (of_decide_eq_false k), fun _ => ?_⟩⟩⟩)
  have e0 : σ1.2.1 125 0 = (G : Int) := by rw [nA 125 0 (by decide), hG]
  rw [e0, show ((G : Int)).toNat = G by omega]
  have e1 : (sI σ1 126 G x1).2.1 125 0 = (G : Int) := by rw [sI_at, if_neg (by omega), e0]
  rw [e1, show ((G : Int)).toNat = G by omega]
  have e2 : (sI (sI σ1 126 G x1) 127 G x2).2.1 125 0 = (G : Int) := by rw [sI_at, if_neg (by omega), e1]
  rw [e2, show ((G : Int)).toNat = G by omega]
  have e3 : (sI (sI (sI σ1 126 G x1) 127 G x2) 128 G x3).2.1 125 0 = (G : Int) := by rw [sI_at, if_neg (by omega), e2]
  rw [e3, show ((G : Int)).toNat = G by omega]
  have t1 : Sh (sI σ1 126 G x1) := sh_I hs1 h1 (hs1.k (a := 126) rfl) (Or.inl (by decide))
  have t2 : Sh (sI (sI σ1 126 G x1) 127 G x2) := sh_I t1 h2 (t1.k (a := 127) rfl) (Or.inl (by decide))
  have t3 : Sh (sI (sI (sI σ1 126 G x1) 127 G x2) 128 G x3) := sh_I t2 h3 (t2.k (a := 128) rfl) (Or.inl (by decide))
  have t4 : Sh (sI (sI (sI (sI σ1 126 G x1) 127 G x2) 128 G x3) 129 G 0) := sh_I t3 (by decide) (t3.k (a := 129) rfl) (Or.inl (by decide))
  have hB4 : Agk (DPm (SGd G)) σ1 (sI (sI (sI (sI σ1 126 G x1) 127 G x2) 128 G x3) 129 G 0) := ((((Agk.rf hs1).sI t1 ⟨by unfold vp; omega, by unfold SGd; omega⟩).sI t2 ⟨by unfold vp; omega, by unfold SGd; omega⟩).sI t3 ⟨by unfold vp; omega, by unfold SGd; omega⟩).sI t4 ⟨by unfold vp; omega, by unfold SGd; omega⟩
  refine ⟨fun _ => ⟨by omega, by omega, h1, by omega, by omega, h2, by omega, by omega, h3, by omega, by omega, ?_⟩, fun h => absurd h (by omega)⟩
  refine m_guardL (x1 := x1) (x2 := x2) (x3 := x3) (σ0 := σ1) hG5 (fun σ5 hB e5 hv5 => ⟨rfl, ?_⟩) 4 0 _ rfl hB4 (by rw [sI_at, if_neg (by omega), e3]) (fun a k hp hq hn hk => ?_)
  · have hz : (a = 126 ∧ k = G) ∨ (a = 127 ∧ k = G) ∨ (a = 128 ∧ k = G) ∨ (a = 129 ∧ k = G) := by unfold SGd at hq; omega
    rcases hz with ⟨rfl, rfl⟩ | ⟨rfl, rfl⟩ | ⟨rfl, rfl⟩ | ⟨rfl, rfl⟩
    · rw [sI_at, if_neg (by omega), sI_at, if_neg (by omega), sI_at, if_neg (by omega), sI_at, if_pos ⟨rfl, rfl⟩]
      rfl
    · rw [sI_at, if_neg (by omega), sI_at, if_neg (by omega), sI_at, if_pos ⟨rfl, rfl⟩]
      rfl
    · rw [sI_at, if_neg (by omega), sI_at, if_pos ⟨rfl, rfl⟩]
      rfl
    · rw [sI_at, if_pos ⟨rfl, rfl⟩]
      rfl
  · have t6 : Sh (sI σ5 125 0 ((G : Int) + 1)) := sh_I hB.1 (by omega) (hB.1.k (a := 125) rfl) (Or.inl (by decide))
    have hB6 : Agk (DPm (SGd G)) σ1 (sI σ5 125 0 ((G : Int) + 1)) := hB.sI t6 ⟨by unfold vp; omega, by unfold SGd; omega⟩
    have hv6 : ∀ a k, vp a k → SGd G a k → (sI σ5 125 0 ((G : Int) + 1)).2.1 a k = nvG G x1 x2 x3 a := fun a k hp hq => by
      rw [sI_at]
      by_cases hz : a = 125 ∧ k = 0
      · rw [if_pos hz, hz.1]
        rfl
      · rw [if_neg hz]
        exact hv5 a k hp hq (by unfold SGd at hq; omega)
    refine hi.setPl (SGd G) hA hB6 (fun k q => by unfold SGd at q; omega) (fun a k hp hq => (hv a k hp hq).trans (hv6 a k hp hq).symm) ?_ ?_
    · refine hi.2.1.2.1.moreGd hG hG5 g1 g2 g3 hv6 (fun a k hf hns => ?_)
      rw [hB6.2.2 a k (fun q => hns q.2)]
      exact nA a k (by unfold FYm at hf; omega)
    · rw [hB6.2.2 125 11 (fun q => by have := q.2; unfold SGd at this; omega), nA 125 11 (by decide)]
      exact hi.2.1.2.2
end GUARDOPB
